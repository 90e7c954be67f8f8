import java.util.NoSuchElementException;
import java.util.Random;

/** Whatever is called in whatever state, nothing is thrown but what thief may throw, and only where it must. */
public final class FuzzTest {
    private static final int[] ODD = {Integer.MIN_VALUE, Integer.MIN_VALUE + 1, -1000, -2, -1, 0, 1, 2, 3, 4, 5, 6, 9, 10,
        11, 12, 15, 16, 17, 30, 31, 32, 33, 60, 61, 63, 64, 9999, 10000, 1 << 30, Integer.MAX_VALUE};
    private static final String[] BITS = {"apple ", "twin ", "other ", "person ", "stranger ", "page ", "bann ",
        "near ", "value ", "call ", "pick ", "day", ";", ";", ";", " a ", " b ", " c ", " d ", " e ", " p ", " q ",
        "plain", "alias", "welsh", "deaf", " at ", " ripe ", " worth ", " lane ", " loud ", " not ", " and ", " or ",
        "(", ")", "<", "=", "+", "-", "*", " 0 ", " 1 ", " 7 ", " 99 ", " 9999 ", "12345", "edits", "start", "rhyme",
        "size", "base", "age", "?", "\n", "apple a plain at 0 1 ripe 2 worth 3;", "apple b welsh at 2 2 ripe 0 worth 9;",
        "apple c deaf at 2 3 ripe 0 worth 9;", "apple d alias at 9 4 ripe 60 worth 99;", "other e;", "other f;",
        "person p lane 2 loud 2;", "person q lane 3 loud 6 not a;", "stranger a 5;", "stranger e 10;", "page a b;",
        "page d c b;", "bann a b;", "bann e a;", "twin a c;",
        "near edits<3;", "value base*age;"};
    private static final int LINES = 17;

    private final Random chance;
    private final NameOrchard x = new NameOrchard();

    private FuzzTest(long seed) {
        chance = new Random(seed);
    }

    private int n() {
        int kind = chance.nextInt(4);
        return kind == 0 ? ODD[chance.nextInt(ODD.length)] : kind == 1 && chance.nextInt(20) == 0 ? chance.nextInt()
                : chance.nextInt(7);
    }

    private boolean b() {
        return chance.nextBoolean();
    }

    private void feed() {
        StringBuilder s = new StringBuilder();
        int lines = BITS.length - LINES;
        for (int i = 0; i < LINES && chance.nextInt(40) > 0; i++) {
            s.append(chance.nextInt(60) > 0 ? BITS[lines + i] : "");
        }
        for (int i = chance.nextInt(5) > 0 ? 0 : chance.nextInt(30); i > 0; i--) {
            s.append(BITS[chance.nextInt(BITS.length)]);
        }
        if (chance.nextInt(10) == 0) {
            x.feed(chance.nextLong(), chance.nextLong(), chance.nextLong());
        }
        Due.feed(x, s.toString());
    }

    /** A tape that was not read ahead, or is empty, comes up now and then. */
    private void tellOrchard() {
        if (chance.nextInt(20) > 0) {
            x.days();
            feed();
        }
        x.orchard();
    }

    private void tellDays() {
        String[] lines = {"call p a;", "call q e;", "pick a;", "pick c;", "day;", "call p d;", "day;", "call q b;"};
        StringBuilder s = new StringBuilder();
        for (int i = chance.nextInt(44); i > 0; i--) {
            s.append(lines[chance.nextInt(lines.length)]);
        }
        Due.feed(x, s.toString());
        x.days();
    }

    private void thief() {
        int page = n();
        int lane = n();
        int loud = n();
        boolean good = page >= 0 && page < x.count(4) && lane >= 0 && lane < 12 && loud >= 0 && loud < 7;
        try {
            x.thief(page, lane, loud);
            Due.yes("thief answers", good);
        } catch (NoSuchElementException e) {
            Due.no("thief throws", good);
        }
    }

    private void any() {
        switch (chance.nextInt(30)) {
            case 0 -> {
                if (chance.nextInt(8) == 0) {
                    feed();
                }
            }
            case 1 -> tellOrchard();
            case 2 -> tellDays();
            case 3 -> x.apple(n(), n());
            case 4 -> x.near(n(), n(), n());
            case 5 -> x.says(n(), n());
            case 6 -> x.falls(n(), n());
            case 7, 8 -> x.call(n(), n());
            case 9 -> x.pick(n());
            case 10 -> x.christen(n(), n());
            case 11 -> x.pass(n());
            case 12 -> x.undo();
            case 13 -> x.judged(n());
            case 14 -> x.crop(n(), n());
            case 15 -> x.fetch();
            case 16 -> x.lies(n(), b());
            case 17 -> x.called(n());
            case 18 -> x.tell(n(), n(), b());
            case 19 -> x.laws(n());
            case 20 -> x.loss(n());
            case 21 -> x.best(n(), n());
            case 22 -> thief();
            case 23 -> x.hide(n(), n());
            case 24 -> x.banns(n(), n(), n());
            case 25 -> x.years(n(), n(), n());
            case 26, 27 -> x.mark(n(), b());
            default -> x.count(n());
        }
    }

    public static void main(String[] args) {
        int runs = args.length > 0 ? Integer.parseInt(args[0]) : 1500;
        for (int seed = 0; seed < runs; seed++) {
            FuzzTest f = new FuzzTest(seed);
            f.feed();
            if (seed % 3 > 0) {
                f.x.orchard();
            }
            for (int i = 0; i < 450; i++) {
                f.any();
            }
        }
        Due.end();
    }
}
