import java.util.HashSet;
import java.util.Random;
import java.util.Set;

/** Orchards as big as can be, with many different calls, for the promises that look far ahead (15, 16, 18, 25, 26). */
public final class BigTest {
    private static final String[] SORTS = {"plain", "welsh", "welsh", "alias", "deaf"};
    private static final String[] LAWS = {"edits<2", "edits<3", "rhyme or 1<start", "edits<2 and size<4", "1"};

    private final Random chance;

    private BigTest(long seed) {
        chance = new Random(seed);
    }

    private String[] names() {
        Set<String> used = new HashSet<>(Oracle.KEYWORDS);
        String[] names = new String[21];
        for (int i = 0; i < names.length; i++) {
            StringBuilder name;
            do {
                name = new StringBuilder();
                for (int j = 2 + chance.nextInt(3); j > 0; j--) {
                    name.append((char) ('a' + chance.nextInt(3)));
                }
            } while (!used.add(name.toString()));
            names[i] = name.toString();
        }
        return names;
    }

    private String orchard() {
        String[] n = names();
        StringBuilder s = new StringBuilder();
        for (int i = 0; i < 10; i++) {
            s.append("apple ").append(n[i]).append(' ').append(SORTS[chance.nextInt(5)]).append(" at 0 ")
                    .append(chance.nextInt(12)).append(" ripe ").append(chance.nextInt(3)).append(" worth ")
                    .append(1 + chance.nextInt(99)).append(';');
        }
        for (int i = 10; i < 16; i++) {
            s.append("other ").append(n[i]).append(';');
        }
        for (int i = 16; i < 21; i++) {
            s.append("person ").append(n[i]).append(" lane ").append(chance.nextInt(12)).append(" loud ")
                    .append(1 + chance.nextInt(6)).append(';');
        }
        for (int i = 0; i < 10; i += 2) {
            s.append(chance.nextInt(3) == 0 ? "twin " + n[i] + " " + n[i + 1] + ";" : "");
        }
        for (int i = 5; i < 11; i++) {
            s.append("stranger ").append(n[i]).append(' ').append(chance.nextInt(11)).append(';');
        }
        for (int i = 0; i < 4; i++) {
            s.append("bann ").append(n[i]).append(' ').append(n[i + 4]).append(';');
        }
        return s.append("near ").append(LAWS[chance.nextInt(5)]).append(";value base-age*")
                .append(chance.nextInt(20)).append(";").toString();
    }

    private void run() {
        String text = orchard();
        NameOrchard x = new NameOrchard();
        Oracle y = new Oracle();
        Due.feed(x, text);
        for (int i = 0; i < text.length(); i += 24) {
            y.feed(Due.eight(text, i), Due.eight(text, i + 8), Due.eight(text, i + 16));
        }
        Due.same("orchard " + text, x.orchard(), y.orchard());
        Due.same("which is right: " + text, y.count(0), 10);
        for (int round = 0; round < 3; round++) {
            Due.same("fetch " + text, x.fetch(), y.fetch());
            for (int what = 0; what < 4; what++) {
                Due.same("called " + what + text, x.called(what), y.called(what));
                Due.same("banns " + what + text, x.banns(round, 5, what), y.banns(round, 5, what));
                Due.same("years " + what + text, x.years(round, 30, what), y.years(round, 30, what));
            }
            int days = round == 0 ? 3 : round;
            Due.same("crop 0 " + text, x.crop(days, 0), y.crop(days, 0));
            Due.same("crop 1 " + text, x.crop(days, 1), y.crop(days, 1));
            int person = chance.nextInt(5);
            int sound = chance.nextInt(16);
            Due.same("call " + text, x.call(person, sound), y.call(person, sound));
        }
    }

    public static void main(String[] args) {
        int runs = args.length > 0 ? Integer.parseInt(args[0]) : 10;
        for (int i = 0; i < runs; i++) {
            new BigTest(i).run();
        }
        Due.end();
    }
}
