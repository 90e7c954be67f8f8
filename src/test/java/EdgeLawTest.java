/**
 * The boundary cases of an E and of what is told of sounds (promises 3, 5 and 6): a method for each sentence of the
 * document, which stands above it.
 */
public final class EdgeLawTest {
    private EdgeLawTest() {
    }

    public static void main(String[] args) {
        fromTheLeft();
        oneComparison();
        sums();
        products();
        parts();
        aPartIsWanted();
        withinFive();
        withinFiveElsewhere();
        oneOrNought();
        whatIsNotNought();
        intsWrap();
        manyParts();
        factsOfTheirLaw();
        edits();
        start();
        rhyme();
        size();
        baseAndAge();
        withoutNear();
        withoutValue();
        belowAndAbove();
        nearOfTwoSounds();
        othersOfNear();
        Due.end();
    }

    /** What an apple of worth 5 that is ripe on day 3 is worth on day 0 by a law, 0 to 999. */
    private static void worth(String law, int due) {
        Due.same("value " + law, Due.told("apple a plain at 0 0 ripe 3 worth 5;value " + law + ";").apple(0, 9), due);
    }

    private static void wrong(String ahead, int kind, String rest) {
        Due.fault(ahead + rest, kind, ahead.length());
    }

    // "E: TEST { and TEST or or TEST }, from the left"
    private static void fromTheLeft() {
        worth("1 or 1 and 0", 0);
        worth("1 or (1 and 0)", 1);
        worth("0 and 0 or 1", 1);
        worth("0 and (0 or 1)", 0);
        worth("0 or 1 and 1 or 0 and 0", 0);
        worth("1 and 1 and 1 and 0 or 1", 1);
    }

    // "TEST: SUM, or SUM < SUM, or SUM = SUM"
    private static void oneComparison() {
        worth("1<2 and 2<3 and 3=3", 1);
        wrong("near 1<2", 1, "<3;");
        wrong("near 1<2", 1, "=3;");
        wrong("near 1=2", 1, "<3;");
        wrong("near 1=2", 1, "=3;");
        wrong("near 1<2+3*4", 1, "<3;");
        wrong("near 1<2 and 1<2", 1, "<3;");
        worth("(3<2)<1", 1);
        worth("not 1<2", 1);
        worth("2<2", 0);
        worth("1<2", 1);
        worth("3<2", 0);
        worth("2=2", 1);
        worth("1=2", 0);
        worth("3=2", 0);
        worth("0-1<0", 1);
        worth("0<0-1", 0);
        worth("1+1<1+2", 1);
        worth("1+2<1+2", 0);
        worth("2*3=3+3", 1);
    }

    // "SUM: PRODUCT { + or - PRODUCT }"
    private static void sums() {
        worth("9-3-2", 4);
        worth("9-(3-2)", 8);
        worth("9-3+2", 8);
        worth("1+2*3", 7);
        worth("2*3+1", 7);
        worth("9-2*3-1", 2);
    }

    // "PRODUCT: PART { * PART }"
    private static void products() {
        worth("2*3*4", 24);
        worth("(1+2)*(3+4)", 21);
        worth("2*(3)*not 0", 6);
        worth("9*0", 0);
    }

    // "PART: a NUMBER, a fact, not PART, ( E )"
    private static void parts() {
        worth("7", 7);
        worth("base", 5);
        worth("(7)", 7);
        worth("not 7", 0);
        worth("not 0", 1);
        worth("not not 7", 1);
        worth("not 0+5", 6);
        worth("not(0+5)", 0);
        worth("3*not 0*4", 12);
        worth("not 0=1", 1);
        worth("(1 or 0)+5", 6);
    }

    // The same sentences: what is no PART, where one is wanted; what is no sign, where one is.
    private static void aPartIsWanted() {
        for (String none : new String[] {";", ")", "<", "=", "+", "-", "*", "and", "or", "tom", "at", "?", ""}) {
            wrong("near ", 1, none);
            wrong("near 1+", 1, none);
            wrong("near 1<", 1, none);
            wrong("near 1 and ", 1, none);
            wrong("near (", 1, none);
            wrong("near not ", 1, none);
        }
        for (String none : new String[] {"1", "edits", "not 1", "(1)", "tom", "?", ""}) {
            wrong("near 1 ", 1, none);
            wrong("near (1) ", 1, none);
            wrong("near (1 ", 1, none);
            wrong("near edits ", 1, none);
        }
        wrong("near (1", 1, ";");
        wrong("near ((1)", 1, ";");
        wrong("near 1", 1, ");");
        wrong("near (1)", 1, ");");
    }

    // "no PART lies within 5 of not and ( )"; "not, or a PART, within 5 others"
    private static void withinFive() {
        for (int depth = 0; depth <= 7; depth++) {
            for (int mask = 0; mask < 1 << depth; mask++) {
                StringBuilder opened = new StringBuilder("near ");
                StringBuilder closed = new StringBuilder();
                int fifth = 0;
                for (int i = 0; i < depth; i++) {
                    boolean not = (mask >> i & 1) != 0;
                    fifth = i == 5 ? opened.length() : fifth;
                    opened.append(not ? "not " : "(");
                    closed.append(not ? "" : ")");
                }
                String text = opened + "edits" + closed + ";";
                // Of five it is the PART in them that is too deep, of more the sixth of them.
                Due.fault(text, depth < 5 ? 0 : 5, depth < 5 ? 0 : depth == 5 ? opened.length() : fifth);
            }
        }
    }

    // The same sentence: a PART ends, and what stands behind it lies no longer within it.
    private static void withinFiveElsewhere() {
        Due.fault("near ((((1))))+((((1))))*not not not not 1;", 0, 0);
        Due.fault("near (((1)+(2))*((3)-(4)))<((((5))));", 0, 0);
        Due.fault("near not(not(1))and not(not(1));", 0, 0);
        wrong("near ((((1))))+(((((", 5, "1)))));");
        wrong("near (not(1)+not(not(", 5, "1)));");
        wrong("near not not not not 1+not not not not not ", 5, "1;");
        wrong("near ((((1+(", 5, "2)))));");
        wrong("near ((((1+not ", 5, "2))));");
    }

    // "Of not, and, or, < and = comes 1 or 0"
    private static void oneOrNought() {
        worth("not 9*100", 0);
        worth("(not 0)*100", 100);
        worth("(5 and 7)*100", 100);
        worth("(5 and 0)*100", 0);
        worth("(0 and 5)*100", 0);
        worth("(5 or 7)*100", 100);
        worth("(0 or 7)*100", 100);
        worth("(5 or 0)*100", 100);
        worth("(0 or 0)*100+1", 1);
        worth("(1<9)*100", 100);
        worth("(9<1)*100+1", 1);
        worth("(9=9)*100", 100);
        worth("(9=1)*100+1", 1);
        worth("5 and 7", 1);
        worth("0 or 7", 1);
    }

    // "what is not 0 is so"
    private static void whatIsNotNought() {
        worth("not(0-1)", 0);
        worth("(0-1 and 1)*9", 9);
        worth("(0-1 or 0)*9", 9);
        worth("(0 or 0-1)*9", 9);
        worth("9999 and 1", 1);
        for (String law : new String[] {"1", "2", "9999", "0-1", "0-9999", "edits-1"}) {
            Due.same("near " + law, Due.told("other a;near " + law + ";").near(0, 0, 3), 1);
        }
        for (String law : new String[] {"0", "0000", "1-1", "0*9", "edits"}) {
            Due.same("near " + law, Due.told("other a;near " + law + ";").near(0, 0, 3), 0);
        }
    }

    // "ints wrap"
    private static void intsWrap() {
        String most = "8192*8192*32-1";
        worth(most, 999);
        worth("8192*8192*32", 0);
        worth("8192*8192*32<0", 1);
        worth(most + "+1<0", 1);
        worth("0<" + most, 1);
        worth("0-8192*8192*32<0", 1);
        worth("0-8192*8192*32-1<0", 0);
        worth("0-8192*8192*32-1=" + most, 1);
        worth("8192*8192*64", 0);
        worth("not(8192*8192*64)", 1);
        worth("8192*8192*64+7", 7);
        worth("(" + most + ")*2+3", 1);
        worth("9999*9999*9999*9999", Math.max(0, Math.min(999, 9999 * 9999 * 9999 * 9999)));
        worth("9999*9999*43<0", 9999 * 9999 * 43 < 0 ? 1 : 0);
        Due.same("near by what wraps to 0", Due.told("other a;near 8192*8192*64;").near(0, 0, 3), 0);
        Due.same("near by the least", Due.told("other a;near 8192*8192*32;").near(0, 0, 3), 1);
    }

    // "The TAPE has at most 1,000 signs": the longest laws that fit.
    private static void manyParts() {
        String apple = "apple a plain at 0 0 ripe 3 worth 5;";
        int places = 1000 - apple.length() - "value 1;".length();
        NameOrchard x = Due.told(apple + "value 1" + "+1".repeat(places / 2) + ";");
        Due.same("a sum of all", x.apple(0, 9), 1 + places / 2);
        x = Due.told(apple + "value 1" + "-1".repeat(places / 2) + ";");
        Due.same("a difference of all", x.apple(0, 9), 0);
        // Of each E in the next one or, <, + and * wait for it: as many as can.
        worth("0 or 20<3+4*(0 or 20<3+4*(0 or 20<3+4*(0 or 20<3+4*(7*2+1))))", 0);
        worth("0 or 6<3+4*(0 or 6<3+4*(0 or 6<3+4*(0 or 22<3+4*not 0*5)))", 1);
        worth("0 or 6<3+4*(0 or 6<3+4*(0 or 6<3+4*(0 or 23<3+4*not 0*5)))", 0);
    }

    // "Facts: of near edits .. start .. rhyme .. size ..; of value base .. age"
    private static void factsOfTheirLaw() {
        for (String fact : new String[] {"edits", "start", "rhyme", "size"}) {
            Due.fault("near " + fact + ";", 0, 0);
            wrong("value ", 1, fact + ";");
            wrong("value 1+(", 1, fact + ");");
        }
        for (String fact : new String[] {"base", "age"}) {
            Due.fault("value " + fact + ";", 0, 0);
            wrong("near ", 1, fact + ";");
            wrong("near 1+(", 1, fact + ");");
        }
    }

    /** What is asked of two words, the first one called. */
    private static int of(String called, String sound, int what) {
        String twice = called.equals(sound) ? "" : "other " + sound + ";";
        return Due.told("other " + called + ";" + twice).near(0, called.equals(sound) ? 0 : 1, what);
    }

    private static void both(String one, String other, int what, int due) {
        Due.same(one + " " + other + " " + what, of(one, other, what), due);
        Due.same(other + " " + one + " " + what, of(other, one, what), due);
    }

    // "edits (the fewest letters to be put in, left out, changed that make the one SOUND the other)"
    private static void edits() {
        both("a", "a", 0, 0);
        both("abcdefgh", "abcdefgh", 0, 0);
        both("a", "z", 0, 1);
        both("a", "az", 0, 1);
        both("a", "za", 0, 1);
        both("a", "bcdefghi", 0, 8);
        both("a", "abcdefgh", 0, 7);
        both("z", "abcdefgz", 0, 7);
        both("abcdefgh", "ijklmnop", 0, 8);
        both("abcdefgh", "bcdefghz", 0, 2);
        both("abcdefgh", "hgfedcba", 0, 8);
        both("ab", "ba", 0, 2);
        both("abc", "abxc", 0, 1);
        both("abc", "ac", 0, 1);
        both("abc", "axc", 0, 1);
        both("kitten", "sitting", 0, 3);
        both("zzzzzzzz", "zzzzzzz", 0, 1);
        both("saturday", "sunday", 0, 3);
    }

    // "start (how many first letters are the same)"
    private static void start() {
        both("a", "a", 1, 1);
        both("a", "b", 1, 0);
        both("a", "abcdefgh", 1, 1);
        both("abcdefgh", "abcdefgh", 1, 8);
        both("abcdefgh", "abcdefgz", 1, 7);
        both("abcdefg", "abcdefgh", 1, 7);
        both("zbcdefgh", "abcdefgh", 1, 0);
        both("abcz", "abdz", 1, 2);
        both("zz", "zzz", 1, 2);
        both("z", "y", 1, 0);
    }

    // "rhyme (how many last ones)"
    private static void rhyme() {
        both("a", "a", 2, 1);
        both("a", "b", 2, 0);
        both("h", "abcdefgh", 2, 1);
        both("abcdefgh", "abcdefgh", 2, 8);
        both("abcdefgh", "zbcdefgh", 2, 7);
        both("bcdefgh", "abcdefgh", 2, 7);
        both("abcdefgh", "abcdefgz", 2, 0);
        both("zabc", "ydbc", 2, 2);
        both("zz", "zzz", 2, 2);
        both("z", "y", 2, 0);
    }

    // "size (how many letters the one called has)"
    private static void size() {
        String letters = "abcdefgh";
        for (int length = 1; length <= 8; length++) {
            String word = letters.substring(0, length);
            NameOrchard x = Due.told("other " + word + ";other zz;near size=" + length + ";");
            Due.same("size of " + word, x.near(0, 1, 3), 1);
            Due.same("of the one called, not of " + word, x.near(1, 0, 3), length == 2 ? 1 : 0);
        }
    }

    // "of value base (the APPLE's worth), age (the day less the one it is ripe on)"
    private static void baseAndAge() {
        NameOrchard x = Due.told("apple a plain at 0 0 ripe 2 worth 0;apple b plain at 0 0 ripe 60 worth 99;"
                + "apple c plain at 0 0 ripe 0 worth 7;value base+100+age;");
        int[] due = {98, 139, 107};
        for (int day = 0; day < 62; day++) {
            for (int apple = 0; apple < 3; apple++) {
                Due.same("day " + day + ", apple " + apple, x.apple(apple, 9), due[apple] + day);
            }
            x.pass(1);
        }
    }

    // "Without near: edits = 0"
    private static void withoutNear() {
        NameOrchard x = Due.told("other a;other b;other ab;");
        for (int called = 0; called < 3; called++) {
            for (int sound = 0; sound < 3; sound++) {
                Due.same(called + " is near " + sound, x.near(called, sound, 3), called == sound ? 1 : 0);
            }
        }
    }

    // "without value: base if age is not below 0, else 0"
    private static void withoutValue() {
        NameOrchard x = Due.told("apple a plain at 0 0 ripe 2 worth 9;apple b plain at 0 0 ripe 0 worth 99;"
                + "apple c plain at 0 0 ripe 60 worth 5;");
        for (int day = 0; day < 62; day++) {
            Due.same("a on day " + day, x.apple(0, 9), day < 2 ? 0 : 9);
            Due.same("b on day " + day, x.apple(1, 9), 99);
            Due.same("c on day " + day, x.apple(2, 9), day < 60 ? 0 : 5);
            x.pass(1);
        }
    }

    // "What FALLS on a day is worth the E of value then (0 below it, 999 above)"
    private static void belowAndAbove() {
        int[] worths = {-2, -1, 0, 1, 998, 999, 1000, 1001};
        for (int worth : worths) {
            int due = Math.max(0, Math.min(999, worth));
            String law = worth < 0 ? "0-" + -worth : "" + worth;
            String text = "apple a plain at 0 0 ripe 3 worth 5;page a;person p lane 0 loud 0;other b;bann b a;value " + law
                    + ";";
            Due.same("value now " + worth, Due.told(text).apple(0, 9), due);
            Due.same("picked " + worth, Due.told(text).pick(0), due);
            NameOrchard x = Due.told(text);
            Due.same("crop " + worth, x.crop(1, 0), due);
            Due.same("banns " + worth, x.banns(0, 0, 0), due);
            x.call(0, 0);
            Due.same("had " + worth, x.count(8), due);
            Due.same("value of what is down " + worth, x.apple(0, 9), due);
            Due.days(x, "call p a;");
            Due.same("judged " + worth, x.judged(2), due);
        }
    }

    // "Of two SOUNDS (the first one called), what 0: edits, 1: start, 2: rhyme, 3: 1 it is NEAR"
    private static void nearOfTwoSounds() {
        NameOrchard x = Due.told("other abc;other xbc;other ab;near size+start=5;");
        int[][] due = {{0, 3, 3, 0}, {1, 0, 2, 0}, {1, 2, 0, 1}};
        for (int sound = 0; sound < 3; sound++) {
            for (int what = 0; what < 4; what++) {
                Due.same("abc, " + sound + ", " + what, x.near(0, sound, what), due[sound][what]);
            }
        }
        Due.same("ab called, abc", x.near(2, 0, 3), 0);
    }

    // "NONE: others."
    private static void othersOfNear() {
        NameOrchard x = Due.told("apple abc plain at 0 0 ripe 0 worth 0;other ab;person p lane 0 loud 0;");
        int[] none = {-1, 2, 3, 16, Integer.MAX_VALUE, Integer.MIN_VALUE};
        for (int bad : none) {
            for (int what = -1; what < 5; what++) {
                Due.same("near " + bad + " 0 " + what, x.near(bad, 0, what), -1);
                Due.same("near 0 " + bad + " " + what, x.near(0, bad, what), -1);
            }
        }
        for (int what : new int[] {-1, 4, Integer.MAX_VALUE, Integer.MIN_VALUE}) {
            Due.same("near 0 1 " + what, x.near(0, 1, what), -1);
        }
        Due.same("no sounds", new NameOrchard().near(0, 0, 0), -1);
    }
}
