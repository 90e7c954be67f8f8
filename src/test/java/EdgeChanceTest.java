import java.util.NoSuchElementException;

/**
 * The boundary cases of thieves, pages, banns and years (promises 23 to 26): a method for each sentence of the document,
 * which stands above it.
 */
public final class EdgeChanceTest {
    private static final int[] BAD = {-1, -2, 31, 32, 33, 64, Integer.MAX_VALUE, Integer.MIN_VALUE};
    private static final int THROWN = -1000;

    private EdgeChanceTest() {
    }

    public static void main(String[] args) {
        thieves();
        pages();
        banns();
        draws();
        years();
        Due.end();
    }

    private static void thieves() {
        noSuchThief();
        asToldOneBehindAnother();
        worthAsTold();
        soundsAsTold();
        thievesChangeNothing();
    }

    private static void pages() {
        fewerThanTwo();
        byOneOfTheOthers();
        ofEqualPagesTheFirst();
        othersOfHide();
    }

    private static void banns() {
        noBanns();
        othersOfBanns();
        sevenDaysLater();
        fromThisDayOn();
        ofEqualOrdersTheFirst();
        bothAreCalled();
        lostByThese();
        bannsChangeNothing();
    }

    private static void draws() {
        oneDraw();
        modulo();
        belowHisChance();
        inALaneLoudThree();
        ifThereArePeople();
        ifHeCanSayIt();
    }

    private static void years() {
        othersOfYears();
        theFirstRipeOne();
        ifNoneWasThisDay();
        fellGreen();
        hadByThese();
        allIsAsAhead();
        fromNowOn();
    }

    private static String plain(String name, int row, int ripe, int worth) {
        return "apple " + name + " plain at 0 " + row + " ripe " + ripe + " worth " + worth + ";";
    }

    private static int thief(NameOrchard x, int page, int lane, int loud) {
        try {
            return x.thief(page, lane, loud);
        } catch (NoSuchElementException e) {
            return THROWN;
        }
    }

    // "THIEF with a page in a lane (0 to 11), so loud (0 to 6). NoSuchElementException: others."
    private static void noSuchThief() {
        NameOrchard x = Due.told(plain("a", 0, 0, 5) + plain("b", 11, 0, 7) + "page a;page b;page a b;page b a;");
        for (int page = 0; page < 4; page++) {
            for (int lane = 0; lane <= 11; lane += 11) {
                for (int loud = 0; loud <= 6; loud += 6) {
                    boolean hasA = page != 1 && lane == 0;
                    boolean hasB = page != 0 && lane == 11;
                    Due.same("thief " + page + " " + lane + " " + loud, thief(x, page, lane, loud),
                            (hasA ? 5 : 0) + (hasB ? 7 : 0));
                }
            }
        }
        for (int bad : BAD) {
            Due.same("page " + bad, thief(x, bad, 0, 0), THROWN);
            Due.same("lane " + bad, thief(x, 0, bad, 0), THROWN);
            Due.same("loud " + bad, thief(x, 0, 0, bad), THROWN);
        }
        Due.same("page 4", thief(x, 4, 0, 0), THROWN);
        Due.same("lane 12", thief(x, 0, 12, 0), THROWN);
        Due.same("loud 7", thief(x, 0, 0, 7), THROWN);
        Due.same("at first", thief(new NameOrchard(), 0, 0, 0), THROWN);
        Due.same("no page", thief(Due.told(plain("a", 0, 0, 5)), 0, 0, 0), THROWN);
        Due.same("no second page", thief(Due.told(plain("a", 0, 0, 5) + "page a;"), 1, 0, 0), THROWN);
    }

    // "he calls each of its APPLES' SOUNDS as told, as they are told, one behind another"
    private static void asToldOneBehindAnother() {
        String two = "apple w welsh at 0 0 ripe 0 worth 5;" + plain("e", 2, 0, 7);
        Due.same("welsh, called once", thief(Due.told(two + "page w;"), 0, 0, 1), 0);
        Due.same("an echo, called once", thief(Due.told(two + "page e;"), 0, 0, 1), 0);
        Due.same("each near to both", thief(Due.told(two + "near 1;page w e;"), 0, 0, 1), 12);
        Due.same("each for itself", thief(Due.told(two + "page w e;"), 0, 0, 1), 0);
        NameOrchard x = Due.told(two + "page w;page e;person p lane 0 loud 1;");
        x.call(0, 0);
        x.call(0, 1);
        Due.same("loose ahead", thief(x, 0, 0, 1), 5);
        Due.same("loose ahead", thief(x, 1, 0, 1), 7);
        Due.same("a twin", thief(Due.told(plain("a", 0, 0, 5) + "apple d deaf at 0 9 ripe 0 worth 30;twin a d;page a;page d;"
                + "page d a;"), 0, 0, 0), 35);
        Due.same("of a deaf one alone nothing", thief(Due.told("apple d deaf at 0 0 ripe 0 worth 30;page d;"), 0, 0, 0), 0);
    }

    // "the worth (as told) of what FALLS"
    private static void worthAsTold() {
        for (String value : new String[] {"0", "999", "base*base", "0-base"}) {
            NameOrchard x = Due.told(plain("a", 0, 60, 99) + plain("b", 0, 0, 3) + "page a b;value " + value + ";");
            Due.same("value " + value, thief(x, 0, 0, 0), 102);
            Due.same("hide by it", x.hide(0, 0), -1);
        }
        Due.same("990 at most", thief(Due.told(Many.apples(10).replace("worth 1", "worth 99") + "page aj;near 1;"), 0, 0, 0),
                990);
    }

    // "its APPLES' SOUNDS as told": whatever they are named now, or whether they hang.
    private static void soundsAsTold() {
        NameOrchard x = Due.told(plain("a", 0, 9, 5) + plain("b", 0, 9, 7) + "other c;page a;page b;");
        x.christen(0, 2);
        Due.same("nobody is a", thief(x, 0, 0, 0), 0);
        x.christen(1, 0);
        Due.same("b is a", thief(x, 0, 0, 0), 7);
        Due.same("nobody is b", thief(x, 1, 0, 0), 0);
        x.pick(1);
        Due.same("it hangs no more", thief(x, 0, 0, 0), 0);
        x.christen(0, 1);
        Due.same("a is b", thief(x, 1, 0, 0), 5);
    }

    private static void thievesChangeNothing() {
        NameOrchard x = Due.told(plain("a", 0, 0, 5) + plain("b", 2, 0, 7) + "page a b;page b;near 1;person p lane 0 loud 1;");
        String before = Due.state(x);
        thief(x, 0, 0, 1);
        thief(x, 9, 0, 1);
        x.hide(0, 1);
        x.hide(12, 1);
        Due.text("all stays", Due.state(x), before);
        Due.same("nothing to undo", x.count(12), 0);
    }

    // "HIDE; NONE: .. fewer than two pages."
    private static void fewerThanTwo() {
        Due.same("at first", new NameOrchard().hide(0, 0), -1);
        String a = plain("a", 0, 0, 5);
        Due.same("none", Due.told(a).hide(0, 0), -1);
        Due.same("one", Due.told(a + "page a;").hide(0, 0), -1);
        Due.same("two", Due.told(a + "page a;page a;").hide(0, 0), 0);
        Due.same("four", Due.told(a + "page a;page a;page a;page a;").hide(11, 6), 0);
    }

    // "the page without which the most a THIEF can have .. by one of the others, is the least"
    private static void byOneOfTheOthers() {
        String three = plain("a", 0, 0, 5) + plain("b", 0, 0, 7) + plain("c", 1, 0, 9);
        String[] orders = {"page a;page b;page c;", "page b;page a;page c;", "page c;page a;page b;"};
        int[] near = {1, 0, 2};
        int[] lane1 = {2, 2, 0};
        for (int i = 0; i < 3; i++) {
            Due.same("b is the most in lane 0", Due.told(three + orders[i]).hide(0, 0), near[i]);
            Due.same("c is the most in lane 1", Due.told(three + orders[i]).hide(1, 0), lane1[i]);
        }
        Due.same("not by two of them together", Due.told(three + "page a;page a;page b;page c;").hide(0, 0), 2);
        Due.same("both of the most: the first", Due.told(three + "page a;page b;page b;").hide(0, 0), 0);
        Due.same("the last", Due.told(three + "page a;page a;page a;page a b;").hide(0, 0), 3);
        String least = plain("a", 0, 0, 1) + plain("b", 0, 0, 0);
        Due.same("one is more than nothing", Due.told(least + "page b;page a;").hide(0, 0), 1);
    }

    // "of equal ones the first"
    private static void ofEqualPagesTheFirst() {
        String two = plain("a", 0, 0, 5) + plain("b", 0, 0, 5);
        Due.same("alike", Due.told(two + "page a;page b;").hide(0, 0), 0);
        Due.same("alike but the first", Due.told(two + "page a b;page b;page a;").hide(0, 0), 0);
        Due.same("nobody is heard", Due.told(two + "page a;page b a;").hide(9, 0), 0);
        Due.same("worth nothing", Due.told(plain("a", 0, 0, 0) + "page a;page a;").hide(0, 0), 0);
    }

    private static void othersOfHide() {
        NameOrchard x = Due.told(plain("a", 0, 0, 5) + plain("b", 11, 0, 7) + "page a;page b;");
        for (int bad : BAD) {
            Due.same("lane " + bad, x.hide(bad, 0), -1);
            Due.same("loud " + bad, x.hide(0, bad), -1);
        }
        Due.same("lane 12", x.hide(12, 0), -1);
        Due.same("loud 7", x.hide(0, 7), -1);
        Due.same("lane 11", x.hide(11, 0), 1);
        Due.same("loud 6", x.hide(0, 6), 0);
    }

    // "NONE: .. no banns."
    private static void noBanns() {
        for (int what = -1; what < 6; what++) {
            Due.same("at first, " + what, new NameOrchard().banns(0, 0, what), -1);
            Due.same("none told, " + what, Due.told(plain("a", 0, 0, 1)).banns(0, 0, what), -1);
        }
    }

    // "in a lane, so loud, what 0: lost, 1 + i: the i-th one read; NONE: others"
    private static void othersOfBanns() {
        String text = plain("a", 0, 0, 5) + plain("b", 11, 0, 7);
        for (int many = 1; many <= 4; many++) {
            text += "bann a b;";
            NameOrchard x = Due.told(text);
            Due.same(many + ": lost", x.banns(0, 0, 0), 5);
            for (int i = 0; i < 6; i++) {
                Due.same(many + ": the " + i + "-th", x.banns(0, 0, 1 + i), i < many ? i : -1);
            }
            for (int bad : BAD) {
                Due.same("lane " + bad, x.banns(bad, 0, 0), -1);
                Due.same("loud " + bad, x.banns(0, bad, 0), -1);
                Due.same("what " + bad, x.banns(0, 0, bad), -1);
            }
            Due.same("lane 12", x.banns(12, 0, 0), -1);
            Due.same("loud 7", x.banns(0, 7, 0), -1);
            Due.same("lane 11", x.banns(11, 0, 0), 7);
            Due.same("lane 6, loud 6", x.banns(6, 6, 0), 12);
            Due.same("lane 5, loud 5", x.banns(5, 5, 0), many > 1 ? 12 : 5);
        }
    }

    private static void order(String what, NameOrchard x, int lost, int... due) {
        Due.same(what + ": lost", x.banns(0, 0, 0), lost);
        for (int i = 0; i < due.length; i++) {
            Due.same(what + ": " + i, x.banns(0, 0, 1 + i), due[i]);
        }
    }

    // "from this day on each 7 days later"
    private static void sevenDaysLater() {
        for (int ripe = 0; ripe <= 22; ripe++) {
            NameOrchard x = Due.told(plain("a", 0, ripe, 5) + "other z;other y;bann z y;bann z y;bann z y;bann z a;"
                    + "value 50*(not(age=0));");
            int[][] due = {{3, 0, 1, 2}, {0, 3, 1, 2}, {0, 1, 3, 2}, {0, 1, 2, 3}};
            boolean week = ripe % 7 == 0;
            order("just on day " + ripe, x, week ? 0 : 50, due[week ? ripe / 7 : 3]);
        }
    }

    // The same, on a later day.
    private static void fromThisDayOn() {
        for (int day = 0; day < 30; day++) {
            NameOrchard x = Due.told(plain("a", 0, 21, 5) + "other z;other y;bann z a;bann z y;bann y z;"
                    + "value 50*(not(age=0));");
            if (day > 0) {
                x.pass(day);
            }
            int week = (21 - day) / 7;
            boolean free = day <= 21 && (21 - day) % 7 == 0 && week < 3;
            int[][] due = {{0, 1, 2}, {1, 0, 2}, {1, 2, 0}};
            order("on day " + day, x, free ? 0 : 50, due[free ? week : 0]);
        }
    }

    // "the order by which the least is lost; of equal ones the first"
    private static void ofEqualOrdersTheFirst() {
        String two = plain("a", 0, 0, 5) + plain("b", 0, 0, 7) + "other z;";
        order("alike", Due.told(two + "bann a z;bann b z;"), 12, 0, 1);
        order("alike, four", Due.told(two + "bann a z;bann b z;bann b a;bann z a;"), 12, 0, 1, 2, 3);
        order("a first is less", Due.told(two + "bann b z;bann a z;value base*(9-age);"), 5 * 9 + 7 * 2, 1, 0);
        order("b first is less", Due.told(two + "bann b z;bann a z;value base*(9+age);"), 7 * 9 + 5 * 16, 0, 1);
        order("nothing is lost", Due.told(two + "bann b z;bann a z;value 0;"), 0, 0, 1);
        // Each is worth nothing on one day: d now, a in a week, b in two, c in three.
        String four = plain("a", 0, 7, 9) + plain("b", 0, 14, 9) + plain("c", 0, 21, 9) + plain("d", 0, 0, 9) + "other z;"
                + "bann a z;bann b z;bann c z;bann z d;value 9-9*(age=0);";
        order("just one order", Due.told(four), 0, 3, 0, 1, 2);
        // Each is worth something on one day alone: a now, b in a week, c in two, d in three.
        String not = plain("a", 0, 0, 9) + plain("b", 0, 7, 9) + plain("c", 0, 14, 9) + plain("d", 0, 21, 9) + "other z;"
                + "bann a z;bann b z;bann c z;bann z d;value 9*(age=0);";
        order("the first order by which none is worth anything", Due.told(not), 0, 1, 0, 3, 2);
    }

    // "both SOUNDS are called, the first one ahead"
    private static void bothAreCalled() {
        NameOrchard x = Due.told("apple w welsh at 0 0 ripe 0 worth 5;other z;other y;near 1;bann z y;");
        order("loose by the first, down by the second", x, 5, 0);
        NameOrchard y = Due.told("apple w welsh at 0 0 ripe 0 worth 5;other z;bann w z;bann z w;value base+age;");
        order("loose by the one bann, down by the other", y, 12, 0, 1);
        NameOrchard v = Due.told(plain("a", 0, 0, 5) + plain("b", 0, 0, 7) + "bann b a;");
        order("both", v, 12, 0);
        NameOrchard t = Due.told(plain("a", 0, 0, 5) + "apple d deaf at 0 9 ripe 0 worth 7;twin a d;other z;bann z a;");
        order("and the twin", t, 12, 0);
    }

    // "what FALLS is lost, worth by value on that day": of this reading alone, not what was HAD ahead.
    private static void lostByThese() {
        NameOrchard x = Due.told(plain("a", 0, 0, 5) + plain("b", 0, 9, 7) + plain("c", 0, 0, 30) + "other z;bann a z;"
                + "bann b z;person p lane 0 loud 0;");
        x.call(0, 2);
        Due.same("had", x.count(8), 30);
        order("b first: it is green now", x, 5, 0, 1);
        x.pass(3);
        order("b on day 10 would be ripe: b first", x, 5, 1, 0);
        x.pick(0);
        order("a hangs no more: b first", x, 0, 1, 0);
        x.pass(6);
        order("b is ripe either way", x, 7, 0, 1);
    }

    private static void bannsChangeNothing() {
        NameOrchard x = Due.told(plain("a", 0, 0, 5) + plain("b", 2, 0, 7) + "bann a b;bann b a;near 1;"
                + "person p lane 0 loud 1;");
        String before = Due.state(x);
        x.banns(0, 1, 0);
        x.banns(0, 1, 9);
        Due.text("all stays", Due.state(x), before);
    }

    // "g becomes (g * 1103515245 + 12345) modulo 2147483648 (g is the SEED at first); it is g / 65536, cut, modulo m"
    private static void oneDraw() {
        // Of a day with one person and m sounds: the first draw is his, below 1; the second one is the sound.
        for (int seed = 0; seed < 10000; seed += seed < 20 || seed > 9980 ? 1 : 331) {
            NameOrchard x = Due.told(sounds());
            Draws d = new Draws(seed);
            d.below(1);
            int sound = d.below(16);
            Due.same("had, seed " + seed, x.years(seed, 1, 0), sound < 10 ? sound : 0);
            Due.same("hang, seed " + seed, x.years(seed, 1, 2), sound < 10 ? 9 : 10);
        }
        // By hand: 0 and 21468; 16838 and 5758; 18655 and 8457; 4241 and 233.
        int[] seeds = {0, 1, 5, 9999};
        int[] due = {0, 0, 9, 9};
        for (int i = 0; i < seeds.length; i++) {
            Due.same("by hand, seed " + seeds[i], Due.told(sounds()).years(seeds[i], 1, 0), due[i]);
        }
    }

    /** Ten apples worth 0 to 9 and six other sounds. */
    private static String sounds() {
        StringBuilder s = new StringBuilder();
        for (int i = 0; i < 10; i++) {
            s.append("apple ").append(Many.apple(i)).append(" plain at 0 0 ripe 60 worth ").append(i).append(';');
        }
        return s + Many.others(6) + "person p lane 0 loud 0;value base;";
    }

    // "modulo 2147483648": by many draws, one behind another.
    private static void modulo() {
        for (int seed : new int[] {0, 1, 2, 77, 1234, 5000, 9998, 9999}) {
            NameOrchard x = Due.told(plain("a", 0, 60, 1) + "other b;other c;other d;other e;other f;person p lane 0 loud 0 not b;"
                    + "person q lane 0 loud 0;person r lane 1 loud 0;stranger b 3;stranger c 7;value age+61;");
            for (int days = 1; days <= 60; days++) {
                Draws d = new Draws(seed);
                int fallen = -1;
                for (int day = 0; day < days; day++) {
                    for (int chance = 3; chance <= 7; chance += 4) {
                        if (d.below(10) < chance) {
                            d.below(12);
                        }
                    }
                    int person = d.below(3);
                    int sound = d.below(6);
                    fallen = fallen < 0 && person < 2 && sound == 0 ? day : fallen;
                }
                Due.same("had, seed " + seed + ", " + days, x.years(seed, days, 0), fallen + 1);
                Due.same("green, seed " + seed + ", " + days, x.years(seed, days, 1), fallen < 0 ? 0 : 1);
                Due.same("hang, seed " + seed + ", " + days, x.years(seed, days, 2), fallen < 0 ? 1 : 0);
            }
        }
    }

    // "each stranger, as told, has a DRAW below 10: below his chance he CALLS"
    private static void belowHisChance() {
        for (int chance = 0; chance <= 10; chance++) {
            // In each lane he is heard by the one or the other, be it an echo.
            NameOrchard x = Due.told("apple a welsh at 0 3 ripe 60 worth 1;apple b welsh at 0 8 ripe 60 worth 1;stranger a "
                    + chance + ";near 1;value 1;");
            for (int seed = 0; seed < 40; seed++) {
                Draws d = new Draws(seed);
                int[] heard = new int[2];
                for (int day = 0; day < 3; day++) {
                    if (d.below(10) < chance) {
                        int lane = d.below(12);
                        heard[0] += Math.abs(lane - 3) <= 6 ? 1 : 0;
                        heard[1] += Math.abs(lane - 8) <= 6 ? 1 : 0;
                    }
                }
                int fell = (heard[0] > 1 ? 1 : 0) + (heard[1] > 1 ? 1 : 0);
                Due.same("chance " + chance + ", seed " + seed, x.years(seed, 3, 0), fell);
            }
        }
    }

    // "(in a lane that a DRAW below 12 tells, loud 3)"
    private static void inALaneLoudThree() {
        for (int row = 0; row < 12; row++) {
            NameOrchard x = Due.told(plain("a", row, 60, 1) + "stranger a 10;value 1;");
            for (int seed = 0; seed < 60; seed++) {
                Draws d = new Draws(seed);
                boolean loose = false;
                int fallen = 0;
                for (int day = 0; day < 2 && fallen == 0; day++) {
                    d.below(10);
                    int far = Math.abs(d.below(12) - row);
                    fallen = far <= 3 || far <= 6 && loose ? 1 : 0;
                    loose |= far <= 6;
                    Due.same("row " + row + ", seed " + seed + ", days " + (day + 1), x.years(seed, day + 1, 0), fallen);
                }
            }
        }
    }

    // "then, if there are PEOPLE and SOUNDS, a DRAW below them": without people there is no such draw.
    private static void ifThereArePeople() {
        NameOrchard x = Due.told(plain("a", 5, 60, 1) + "stranger a 5;value age+61;");
        NameOrchard y = Due.told(plain("a", 5, 60, 1) + "person p lane 0 loud 0 not a;stranger a 5;value age+61;");
        for (int seed = 100; seed < 160; seed++) {
            for (int people = 0; people < 2; people++) {
                Draws d = new Draws(seed);
                boolean loose = false;
                int had = 0;
                for (int day = 0; day < 9; day++) {
                    int far = d.below(10) < 5 ? Math.abs(d.below(12) - 5) : 99;
                    had = had == 0 && (far <= 3 || far <= 6 && loose) ? day + 1 : had;
                    loose |= far <= 6;
                    for (int i = 0; i < 2 * people; i++) {
                        d.below(1);
                    }
                }
                Due.same("people " + people + ", seed " + seed, (people == 0 ? x : y).years(seed, 9, 0), had);
            }
        }
        NameOrchard none = Due.told("person p lane 0 loud 0;");
        for (int what = 0; what < 3; what++) {
            Due.same("people, no sounds", none.years(9, 60, what), 0);
            Due.same("at first", new NameOrchard().years(0, 60, what), 0);
        }
        Due.same("neither people nor strangers", Due.told(plain("a", 0, 60, 1)).years(9, 60, 2), 1);
    }

    // "a DRAW below them CALLS a DRAW below the SOUNDS, if he can say it"
    private static void ifHeCanSayIt() {
        NameOrchard x = Due.told(plain("a", 0, 60, 1) + plain("b", 0, 60, 2) + "person p lane 0 loud 0 not a;"
                + "person q lane 0 loud 0 not b;value base;");
        for (int seed = 0; seed < 60; seed++) {
            Draws d = new Draws(seed);
            int fallen = 0;
            for (int day = 0; day < 4; day++) {
                int person = d.below(2);
                int sound = d.below(2);
                fallen |= person != sound ? 1 << sound : 0;
            }
            Due.same("seed " + seed, x.years(seed, 4, 0), fallen);
        }
    }

    // "YEARS by a SEED (0 to 9999)"; "so many days (1 to 60)"; "what 0 .. 2; NONE: others"
    private static void othersOfYears() {
        NameOrchard x = Due.told(plain("a", 0, 0, 5));
        for (int bad : new int[] {-1, -2, 10000, 10001, Integer.MAX_VALUE, Integer.MIN_VALUE}) {
            Due.same("seed " + bad, x.years(bad, 1, 0), -1);
        }
        for (int bad : new int[] {0, -1, 61, 62, Integer.MAX_VALUE, Integer.MIN_VALUE}) {
            Due.same("days " + bad, x.years(1, bad, 0), -1);
        }
        for (int bad : new int[] {-1, 3, 4, Integer.MAX_VALUE, Integer.MIN_VALUE}) {
            Due.same("what " + bad, x.years(1, 1, bad), -1);
        }
        for (int seed = 0; seed < 10000; seed += 9999) {
            Due.same("one day", x.years(seed, 1, 0), 5);
            Due.same("sixty days", x.years(seed, 60, 0), 5);
            Due.same("none green", x.years(seed, 60, 1), 0);
            Due.same("none hangs", x.years(seed, 60, 2), 0);
        }
    }

    // "then the first ripe one that hangs is picked"
    private static void theFirstRipeOne() {
        NameOrchard x = Due.told("apple a deaf at 0 0 ripe 59 worth 1;apple b welsh at 0 0 ripe 2 worth 2;"
                + "apple c plain at 0 0 ripe 1 worth 4;apple d alias at 0 0 ripe 1 worth 8;twin c d;"
                + "apple e plain at 0 0 ripe 60 worth 16;");
        int[] had = {0, 4, 6, 14, 14};
        for (int day = 0; day < 5; day++) {
            Due.same("had, days " + (day + 1), x.years(5, day + 1, 0), had[day]);
        }
        Due.same("59 days: day 58 is the last", x.years(5, 59, 0), 14);
        Due.same("60 days: day 59 is the last", x.years(5, 60, 0), 15);
        Due.same("e hangs", x.years(5, 60, 2), 1);
        x.pass(1);
        Due.same("from day 1", x.years(5, 60, 0), 31);
    }

    // "if none was this day"
    private static void ifNoneWasThisDay() {
        NameOrchard x = Due.told(plain("a", 0, 0, 1) + plain("b", 0, 0, 2) + plain("c", 0, 0, 4));
        Due.same("one day", x.years(5, 1, 0), 1);
        x.pick(0);
        Due.same("one was picked today", x.years(5, 1, 0), 0);
        Due.same("tomorrow none was", x.years(5, 2, 0), 2);
        Due.same("and so on", x.years(5, 3, 0), 6);
        x.pass(1);
        Due.same("a new day", x.years(5, 1, 0), 2);
        x.undo();
        x.undo();
        Due.same("undone", x.years(5, 1, 0), 1);
    }

    // "how many FELL green"
    private static void fellGreen() {
        NameOrchard x = Due.told(plain("a", 0, 1, 1) + "apple b deaf at 0 9 ripe 9 worth 2;apple c deaf at 0 9 ripe 9 worth 2;"
                + "twin b a;person p lane 0 loud 0;near 1;value 1;");
        Due.same("a and its twin", x.years(3, 1, 1), 2);
        Due.same("had", x.years(3, 1, 0), 2);
        Due.same("c hangs", x.years(3, 1, 2), 1);
        x.pass(1);
        Due.same("a is ripe", x.years(3, 1, 1), 1);
        x.pass(7);
        Due.same("day 8: b is green", x.years(3, 1, 1), 1);
        x.pass(1);
        Due.same("day 9: none is", x.years(3, 1, 1), 0);
        Due.same("c is picked", x.years(3, 1, 2), 0);
        Due.same("three had", x.years(3, 1, 0), 3);
    }

    // "HAD by these"
    private static void hadByThese() {
        NameOrchard x = Due.told(plain("a", 0, 0, 1) + plain("b", 0, 0, 2) + plain("c", 0, 0, 4));
        x.pick(2);
        x.pass(1);
        Due.same("had ahead", x.count(8), 4);
        Due.same("by these", x.years(5, 9, 0), 3);
        NameOrchard y = Due.told(plain("a", 0, 2, 1) + "value 100+age;");
        Due.same("worth on its day", y.years(5, 9, 0), 100);
        y.pass(30);
        Due.same("worth on this day", y.years(5, 9, 0), 128);
    }

    // "(all is as ahead then)"
    private static void allIsAsAhead() {
        NameOrchard x = Due.told(plain("a", 0, 0, 1) + plain("b", 3, 9, 2) + "person p lane 0 loud 3;stranger b 5;near 1;");
        x.call(0, 1);
        x.undo();
        String before = Due.state(x);
        int had = x.years(5, 60, 0);
        x.years(77, 60, 1);
        x.years(5, 61, 0);
        Due.text("all stays", Due.state(x), before);
        Due.same("drawn anew", x.years(5, 60, 0), had);
    }

    // "from now on": what is loose, how all is named, who hangs.
    private static void fromNowOn() {
        NameOrchard x = Due.told("apple w welsh at 0 0 ripe 60 worth 1;other z;person p lane 0 loud 0;value 1;near 1;");
        Due.same("once", x.years(1, 1, 0), 0);
        Due.same("twice", x.years(1, 2, 0), 1);
        x.call(0, 0);
        Due.same("loose already", x.years(1, 1, 0), 1);
        x.undo();
        Due.same("fast again", x.years(1, 1, 0), 0);
        NameOrchard y = Due.told(plain("a", 0, 9, 5) + "other b;person p lane 0 loud 0 not a;value 1;");
        Due.same("nobody can call a", y.years(1, 9, 0), 0);
        y.christen(0, 1);
        Due.same("b was called in nine days", y.years(1, 9, 0), 1);
    }
}
