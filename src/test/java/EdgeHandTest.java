/**
 * The boundary cases of apples, people, calls and all that is done by hand (promises 5, 7 to 14, 27 and 28): a method
 * for each sentence of the document, which stands above it.
 */
public final class EdgeHandTest {
    private static final int[] BAD = {-1, -2, 16, 31, 32, 33, 64, Integer.MAX_VALUE, Integer.MIN_VALUE};
    private static final String FOUR = "apple tom plain at 0 0 ripe 3 worth 10;apple tim plain at 0 1 ripe 0 worth 6;"
            + "apple llew welsh at 0 0 ripe 0 worth 30;apple bess deaf at 1 2 ripe 0 worth 9;twin tim bess;other kim;"
            + "other sam;person joe lane 0 loud 1;person meg lane 2 loud 1 not tom;near edits<2;";

    private EdgeHandTest() {
    }

    public static void main(String[] args) {
        asked();
        called();
        picked();
        named();
        passed();
        undone();
        judged();
        marked();
        Due.end();
    }

    private static void asked() {
        ofAnApple();
        othersOfAnApple();
        fallenOnes();
        noneOfItsFirstLetter();
        othersOfSaying();
        othersOfFalling();
        othersOfCounts();
    }

    private static void called() {
        notNought();
        anAliasIsThatSound();
        wholly();
        anEcho();
        looseBeyondAnEcho();
        hangsAndIsNotDeaf();
        itsSoundAsItIsNow();
        welshOnes();
        plainOnes();
        atOnce();
        theTwinOfWhatFalls();
        looseOnce();
        hadTogether();
        refusedCalls();
    }

    private static void picked() {
        oneADay();
        whatHangs();
        itsTwinStays();
        worthOfThePick();
        refusedPicks();
    }

    private static void named() {
        notRipeYet();
        anotherSound();
        thatNoOtherHas();
        oneThatHangs();
        refusedNames();
    }

    private static void passed() {
        oneToThirty();
        theNextOne();
        fiveHundredAndTwelve();
    }

    private static void undone() {
        theLastSixteen();
        oneByOne();
        whatIsNoneOfThese();
        undoOfEach();
    }

    private static void judged() {
        noLines();
        fromTheBeginning();
        firstThatCannotBe();
        secondOfADay();
        firstGreen();
        leftOut();
        othersOfJudged();
    }

    private static void marked() {
        noughtToThree();
        nothingOnIt();
        whatTheyHold();
        nothingUndoneBehindIt();
        lieAsLaid();
    }

    // "apple: what 0: SORT .. 9: value now; NONE: others"
    private static void ofAnApple() {
        NameOrchard x = Due.told("other z;apple a deaf at 11 0 ripe 60 worth 99;apple b alias at 0 11 ripe 0 worth 0;"
                + "apple c welsh at 3 4 ripe 5 worth 6;twin c a;");
        int[][] due = {{3, 11, 0, 60, 99, 1, 1, 0, 2, 0}, {1, 0, 11, 0, 0, 1, 2, 0, -1, 0}, {2, 3, 4, 5, 6, 1, 3, 0, 0, 0}};
        for (int apple = 0; apple < 3; apple++) {
            for (int what = 0; what < 10; what++) {
                Due.same("apple " + apple + " " + what, x.apple(apple, what), due[apple][what]);
            }
        }
        x.pass(30);
        Due.same("c is ripe", x.apple(2, 9), 6);
        Due.same("a is not", x.apple(0, 9), 0);
    }

    private static void othersOfAnApple() {
        NameOrchard x = Due.told(Many.apples(10));
        for (int what = -1; what < 11; what++) {
            Due.same("apple -1 " + what, x.apple(-1, what), -1);
            Due.same("apple 10 " + what, x.apple(10, what), -1);
            Due.same("apple of none", new NameOrchard().apple(0, what), -1);
        }
        for (int bad : BAD) {
            Due.same("apple " + bad, x.apple(bad, 0), -1);
        }
        for (int what : new int[] {-1, 10, 11, Integer.MAX_VALUE, Integer.MIN_VALUE}) {
            Due.same("apple 9 " + what, x.apple(9, what), -1);
        }
        Due.same("the tenth", x.apple(9, 4), 1);
    }

    // "5: 1 it hangs, 6: its SOUND now, 7: 1 loose (0 once it hangs no more), 8: its twin (NONE: none)"
    private static void fallenOnes() {
        NameOrchard x = Due.told(FOUR);
        x.christen(0, 5);
        x.call(0, 2);
        Due.same("hangs", x.apple(2, 5), 1);
        Due.same("loose", x.apple(2, 7), 1);
        x.call(0, 2);
        Due.same("hangs no more", x.apple(2, 5), 0);
        Due.same("loose no more", x.apple(2, 7), 0);
        x.call(0, 5);
        Due.same("down by its name now", x.apple(0, 5), 0);
        Due.same("its name stays", x.apple(0, 6), 5);
        x.pick(1);
        Due.same("its twin is its twin still", x.apple(1, 8), 3);
        Due.same("and it is the twin's", x.apple(3, 8), 1);
        Due.same("no twin", x.apple(0, 8), -1);
        Due.same("as told", x.apple(0, 4), 10);
    }

    // "he can say none that has its first letter"
    private static void noneOfItsFirstLetter() {
        NameOrchard x = Due.told("other zab;other z;other aaaaaaaz;other abz;other ab;other ba;"
                + "person p lane 0 loud 0 not zab;person q lane 0 loud 0 not abz;person r lane 0 loud 0;");
        int[][] due = {{0, 0, 0, 0, 1, 1}, {0, 1, 0, 0, 0, 0}, {1, 1, 1, 1, 1, 1}};
        for (int person = 0; person < 3; person++) {
            for (int sound = 0; sound < 6; sound++) {
                int can = due[person][sound];
                Due.same(person + " says " + sound, x.says(person, sound), can);
                Due.same(person + " calls " + sound, x.falls(person, sound), can - 1);
                Due.same(person + " calls " + sound, x.call(person, sound), can - 1);
            }
        }
        Due.same("just these are to be undone", x.count(12), 2 + 1 + 6);
    }

    // "Whether a PERSON can say a SOUND: 1 or 0; NONE: others."
    private static void othersOfSaying() {
        NameOrchard x = Due.told(Many.apples(10) + Many.others(6) + Many.people(5));
        for (int bad : BAD) {
            Due.same("says " + bad + " 0", x.says(bad, 0), -1);
            Due.same("says 0 " + bad, x.says(0, bad), -1);
        }
        Due.same("a sixth", x.says(5, 0), -1);
        Due.same("the fifth the sixteenth", x.says(4, 15), 1);
        Due.same("nobody", Due.told("other a;").says(0, 0), -1);
        Due.same("nothing", Due.told("person p lane 0 loud 0;").says(0, 0), -1);
    }

    // "APPLES that would FALL, as bits; NONE: others, he can't say it"; "CALL: ..; NONE: likewise"
    private static void othersOfFalling() {
        String text = Many.apples(10) + Many.others(6) + Many.people(5) + "near 1;";
        NameOrchard x = Due.told(text);
        for (int bad : BAD) {
            Due.same("falls " + bad + " 0", x.falls(bad, 0), -1);
            Due.same("falls 0 " + bad, x.falls(0, bad), -1);
            Due.same("call " + bad + " 0", x.call(bad, 0), -1);
            Due.same("call 0 " + bad, x.call(0, bad), -1);
        }
        Due.same("a sixth", x.falls(5, 0), -1);
        Due.same("nothing fell", x.count(6), 10);
        Due.same("the fifth the sixteenth: all", x.falls(4, 15), 1023);
        Due.same("if he called: nothing was", x.count(6) * 100 + x.count(12), 1000);
        Due.same("all fall", x.call(4, 15), 1023);
        Due.same("none hangs", x.falls(4, 15), 0);
        Due.same("none falls", x.call(4, 15), 0);
        Due.same("nobody", Due.told("other a;").call(0, 0), -1);
        Due.same("nothing", Due.told("person p lane 0 loud 0;").call(0, 0), -1);
    }

    // "NONE for another what."
    private static void othersOfCounts() {
        NameOrchard x = Due.told(FOUR);
        for (int what : new int[] {-1, 15, 16, 64, Integer.MAX_VALUE, Integer.MIN_VALUE}) {
            Due.same("count " + what, x.count(what), -1);
        }
    }

    // "a call sounds like a SOUND if the E of near is not 0"
    private static void notNought() {
        String[] laws = {"0", "1", "0-1", "9999", "edits", "edits-3"};
        int[] due = {0, 3, 3, 3, 2, 3};
        for (int i = 0; i < laws.length; i++) {
            NameOrchard x = Due.told("apple tom plain at 0 0 ripe 0 worth 1;apple jill plain at 0 0 ripe 0 worth 1;"
                    + "person p lane 0 loud 0;near " + laws[i] + ";");
            // Of tom called: itself by no edits, jill by four.
            Due.same("near " + laws[i], x.falls(0, 0), due[i]);
        }
    }

    // "(an alias: if it is that SOUND)"
    private static void anAliasIsThatSound() {
        for (String law : new String[] {"0", "1", "edits<2", "0<edits"}) {
            NameOrchard x = Due.told("apple tom alias at 0 0 ripe 1 worth 1;other tim;other kim;person p lane 0 loud 0;near "
                    + law + ";");
            Due.same("its own, " + law, x.falls(0, 0), 1);
            Due.same("a near one, " + law, x.falls(0, 1), 0);
            Due.yes("named", x.christen(0, 1));
            Due.same("its own no more, " + law, x.falls(0, 0), 0);
            Due.same("its own now, " + law, x.falls(0, 1), 1);
            Due.same("another one, " + law, x.falls(0, 2), 0);
        }
    }

    /** Apples in ten rows from one on, all of them near to all, and one person. */
    private static String rows(int from, int lane, int loud) {
        StringBuilder s = new StringBuilder();
        for (int i = 0; i < 10; i++) {
            s.append("apple ").append(Many.apple(i)).append(" plain at 0 ").append(from + i).append(" ripe 0 worth ")
                    .append(1 << Math.min(i, 6)).append(';');
        }
        return s + "near 1;person p lane " + lane + " loud " + loud + ";page aa;";
    }

    // "by how many rows the APPLE's is from the lane: loud at most: wholly"
    private static void wholly() {
        for (int lane = 0; lane < 12; lane++) {
            for (int loud = 0; loud < 7; loud++) {
                int from = 2 * (lane + loud & 1);
                NameOrchard x = Due.told(rows(from, lane, loud));
                int due = 0;
                int worth = 0;
                for (int i = 0; i < 10; i++) {
                    boolean hears = Math.abs(from + i - lane) <= loud;
                    due |= hears ? 1 << i : 0;
                    worth += hears ? 1 << Math.min(i, 6) : 0;
                }
                Due.same("falls, lane " + lane + " loud " + loud, x.falls(0, 0), due);
                Due.same("crop, lane " + lane + " loud " + loud, x.crop(1, 0), worth);
                Due.same("thief, lane " + lane + " loud " + loud, x.thief(0, lane, loud), worth);
                Due.same("call, lane " + lane + " loud " + loud, x.call(0, 0), due);
            }
        }
    }

    // "twice loud at most: an ECHO; else not"
    private static void anEcho() {
        for (int lane = 0; lane < 12; lane++) {
            for (int loud = 0; loud < 7; loud++) {
                int from = 2 * (lane & 1);
                NameOrchard x = Due.told(rows(from, lane, loud));
                int fallen = x.call(0, 0);
                int echo = 0;
                for (int i = 0; i < 10; i++) {
                    int far = Math.abs(from + i - lane);
                    boolean loose = far > loud && far <= 2 * loud;
                    echo |= loose ? 1 << i : 0;
                    Due.same("loose " + i + ", lane " + lane + " loud " + loud, x.apple(i, 7), loose ? 1 : 0);
                }
                Due.same("twice, lane " + lane + " loud " + loud, x.falls(0, 0), echo);
                Due.same("twice, lane " + lane + " loud " + loud, x.call(0, 0), echo);
                Due.same("no more, lane " + lane + " loud " + loud, x.call(0, 0), 0);
                Due.same("the others hang", x.count(6), 10 - Integer.bitCount(echo | fallen));
            }
        }
    }

    // "else not": what is loose does not fall, either, beyond twice loud.
    private static void looseBeyondAnEcho() {
        for (int row = 0; row < 12; row++) {
            for (int loud = 0; loud < 7; loud++) {
                for (int lane = 0; lane < 12; lane++) {
                    NameOrchard x = Due.told("apple a welsh at 0 " + row + " ripe 0 worth 1;person p lane " + row
                            + " loud 0;person q lane " + lane + " loud " + loud + ";page a;other z;bann a z;");
                    x.call(0, 0);
                    int due = Math.abs(row - lane) <= 2 * loud ? 1 : 0;
                    String what = "row " + row + ", lane " + lane + ", loud " + loud;
                    Due.same("falls, " + what, x.falls(1, 0), due);
                    Due.same("thief, " + what, x.thief(0, lane, loud), due);
                    Due.same("banns, " + what, x.banns(lane, loud, 0), due);
                    Due.same("call, " + what, x.call(1, 0), due);
                    Due.same("hangs, " + what, x.count(6), 1 - due);
                }
            }
        }
    }

    // "of each APPLE that hangs, is not deaf"
    private static void hangsAndIsNotDeaf() {
        NameOrchard x = Due.told("apple a deaf at 0 0 ripe 0 worth 1;apple b deaf at 0 2 ripe 0 worth 1;"
                + "apple c plain at 0 0 ripe 0 worth 1;near 1;person p lane 0 loud 1;");
        Due.same("c alone", x.call(0, 0), 4);
        Due.same("again", x.call(0, 0), 0);
        Due.same("and again", x.call(0, 1), 0);
        Due.same("deaf ones are never loose", x.apple(0, 7) + x.apple(1, 7), 0);
        Due.same("two hang", x.count(6), 2);
        x.undo();
        x.undo();
        x.undo();
        x.pick(2);
        Due.same("picked ones don't fall", x.call(0, 0), 0);
        Due.same("picked ones are not loose", x.apple(2, 7), 0);
    }

    // "whose SOUND (as it is now) it is NEAR to"
    private static void itsSoundAsItIsNow() {
        NameOrchard x = Due.told(FOUR);
        Due.same("sam: none", x.falls(0, 5), 0);
        Due.yes("tom is sam", x.christen(0, 5));
        Due.same("sam: tom", x.falls(0, 5), 1);
        Due.same("tom: tim and its twin", x.falls(0, 0), 10);
        x.undo();
        Due.same("sam: none again", x.falls(0, 5), 0);
    }

    /** Apple a hangs in row 2; p calls it wholly, q by an echo. */
    private static NameOrchard one(String sort) {
        return Due.told("apple a " + sort + " at 0 2 ripe 0 worth 1;person p lane 2 loud 0;person q lane 0 loud 1;");
    }

    // "heard wholly it FALLS (a welsh one only if it is loose, else it is loose from then on)"; "by an ECHO it FALLS if
    // it is loose, else it is loose"
    private static void welshOnes() {
        int[][] calls = {{0, 0}, {0, 1}, {1, 0}, {1, 1}};
        for (int[] two : calls) {
            NameOrchard x = one("welsh");
            Due.same("falls at first", x.falls(two[0], 0), 0);
            Due.same("at first", x.call(two[0], 0), 0);
            Due.same("loose", x.apple(0, 7), 1);
            x.pass(30);
            Due.same("from then on", x.apple(0, 7), 1);
            Due.same("falls then", x.falls(two[1], 0), 1);
            Due.same("then", x.call(two[1], 0), 1);
            Due.same("loose no more", x.apple(0, 7), 0);
            Due.same("fetch", one("welsh").fetch(), 2);
        }
    }

    // The same sentence, of one that is not welsh.
    private static void plainOnes() {
        for (String sort : new String[] {"plain", "alias"}) {
            Due.same("wholly", one(sort).call(0, 0), 1);
            for (int then = 0; then < 2; then++) {
                NameOrchard x = one(sort);
                Due.same("an echo", x.call(1, 0), 0);
                Due.same("loose", x.apple(0, 7), 1);
                Due.same("then", x.call(then, 0), 1);
                Due.same("loose no more", x.apple(0, 7), 0);
            }
        }
    }

    // "at once"
    private static void atOnce() {
        NameOrchard x = Due.told("apple a welsh at 0 0 ripe 0 worth 1;apple b welsh at 0 0 ripe 0 worth 2;"
                + "apple c plain at 0 0 ripe 0 worth 4;twin a b;near 1;person p lane 0 loud 0;");
        Due.same("a and b are loose at once, c falls", x.call(0, 0), 4);
        Due.same("a falls, and b, once each", x.call(0, 2), 3);
        Due.same("had", x.count(8), 7);
        NameOrchard y = Due.told("apple a plain at 0 0 ripe 0 worth 1;apple b plain at 0 2 ripe 0 worth 2;twin a b;near 1;"
                + "person p lane 0 loud 1;");
        Due.same("b, made loose, falls as a's twin, once", y.call(0, 0), 3);
        Due.same("had", y.count(8), 3);
        Due.same("no looseness stays", y.apple(1, 7), 0);
    }

    // "Then the twin of what FALLS, if it hangs, FALLS too."
    private static void theTwinOfWhatFalls() {
        for (String sort : new String[] {"plain", "alias", "welsh", "deaf"}) {
            String text = "apple b " + sort + " at 0 11 ripe 0 worth 2;apple a plain at 0 0 ripe 0 worth 1;"
                    + "apple c plain at 0 1 ripe 0 worth 4;apple d plain at 0 11 ripe 0 worth 8;twin a b;twin c d;"
                    + "person p lane 0 loud 0;";
            NameOrchard x = Due.told(text);
            Due.same("would fall, " + sort, x.falls(0, 1), 3);
            Due.same("falls, " + sort, x.call(0, 1), 3);
            Due.same("had", x.count(8), 3);
            NameOrchard y = Due.told(text);
            y.pick(0);
            Due.same("if it hangs", y.falls(0, 1), 2);
            Due.same("if it hangs", y.call(0, 1), 2);
            Due.same("had", y.count(8), 3);
        }
        NameOrchard z = Due.told("apple a plain at 0 0 ripe 0 worth 1;apple b plain at 0 2 ripe 0 worth 2;twin a b;near 1;"
                + "person p lane 1 loud 0;person q lane 0 loud 0;person r lane 1 loud 1;");
        Due.same("neither", z.call(0, 0), 0);
        z.pick(0);
        Due.same("the twin of what is picked stays", z.count(6), 1);
        Due.same("nobody is heard", z.call(1, 0), 0);
        Due.same("b falls", z.call(2, 0), 2);
    }

    // "7: 1 loose (0 once it hangs no more)": and again once that is undone.
    private static void looseOnce() {
        NameOrchard x = one("welsh");
        x.call(0, 0);
        x.pick(0);
        Due.same("picked", x.apple(0, 7), 0);
        x.undo();
        Due.same("loose again", x.apple(0, 7), 1);
        x.undo();
        Due.same("fast again", x.apple(0, 7), 0);
    }

    // "HAD is all that together"
    private static void hadTogether() {
        NameOrchard x = Due.told(Many.apples(10) + "near 1;value 9999;person p lane 0 loud 0;");
        x.pick(0);
        Due.same("one", x.count(8), 999);
        x.call(0, 0);
        Due.same("all ten", x.count(8), 9990);
        NameOrchard y = Due.told(Many.apples(10) + "near 1;value 0-9999;person p lane 0 loud 0;");
        y.pick(0);
        y.call(0, 0);
        Due.same("nothing", y.count(8), 0);
    }

    // "CALL: ..; NONE: likewise": what is refused changes nothing.
    private static void refusedCalls() {
        NameOrchard x = Due.told(FOUR);
        x.call(0, 2);
        String before = Due.state(x);
        int[][] bad = {{1, 0}, {1, 1}, {2, 0}, {-1, 0}, {0, -1}, {0, 6}};
        for (int[] b : bad) {
            Due.same("call " + b[0] + " " + b[1], x.call(b[0], b[1]), -1);
        }
        Due.text("all stays", Due.state(x), before);
    }

    // "PICK: an APPLE that hangs is had likewise, one a day"
    private static void oneADay() {
        NameOrchard x = Due.told(FOUR);
        for (int day = 0; day < 4; day++) {
            Due.same("none was picked", x.count(14), 0);
            Due.yes("one", x.pick(day) >= 0);
            Due.same("one was picked", x.count(14), 1);
            for (int apple = 0; apple < 4; apple++) {
                Due.same("a second one", x.pick(apple), -1);
            }
            x.pass(1);
        }
        Due.same("none hangs", x.count(6), 0);
        NameOrchard y = Due.told(FOUR);
        Due.same("one that is refused", y.pick(4), -1);
        Due.same("is not the one of the day", y.pick(2), 30);
        y.undo();
        Due.same("nor one that is undone", y.pick(3), 9);
    }

    // "NONE: others, it doesn't hang, one was picked this day"
    private static void whatHangs() {
        NameOrchard x = Due.told(FOUR);
        x.pick(1);
        x.pass(1);
        Due.same("picked", x.pick(1), -1);
        x.call(0, 0);
        Due.same("fallen", x.pick(0), -1);
        Due.same("nothing was picked", x.count(14), 0);
        for (int bad : BAD) {
            Due.same("no apple " + bad, x.pick(bad), -1);
        }
        Due.same("a fifth", x.pick(4), -1);
        Due.same("the fourth", x.pick(3), 9);
        Due.same("nothing", new NameOrchard().pick(0), -1);
    }

    // "(its twin stays)"
    private static void itsTwinStays() {
        for (int apple = 1; apple < 4; apple += 2) {
            NameOrchard x = Due.told(FOUR);
            x.pick(apple);
            Due.same("the twin hangs", x.apple(4 - apple, 5), 1);
            Due.same("fast", x.apple(4 - apple, 7), 0);
            Due.same("had", x.count(8), apple == 1 ? 6 : 9);
        }
    }

    // "PICK: what it is worth"
    private static void worthOfThePick() {
        NameOrchard x = Due.told(FOUR + "value base*40+age;");
        Due.same("397", x.pick(0), 397);
        x.pass(1);
        Due.same("241", x.pick(1), 241);
        x.pass(1);
        Due.same("999", x.pick(2), 999);
        Due.same("had", x.count(8), 397 + 241 + 999);
        Due.same("green, without value", Due.told(FOUR).pick(0), 0);
    }

    private static void refusedPicks() {
        NameOrchard x = Due.told(FOUR);
        x.pick(0);
        String before = Due.state(x);
        for (int apple = -1; apple < 5; apple++) {
            Due.same("refused", x.pick(apple), -1);
        }
        Due.text("all stays", Due.state(x), before);
        Due.yes("undo of the one", x.undo());
        Due.no("no other one", x.undo());
    }

    // "CHRISTEN an APPLE that hangs, not ripe yet (its day is yet to come)"
    private static void notRipeYet() {
        for (int ripe : new int[] {0, 1, 2, 30, 31, 60}) {
            for (int day = Math.max(0, ripe - 1); day <= ripe + 1; day++) {
                NameOrchard x = Due.told("apple a deaf at 0 0 ripe " + ripe + " worth 0;other b;");
                for (int left = day; left > 0; left -= 30) {
                    x.pass(Math.min(30, left));
                }
                Due.same("day " + day + " of " + ripe, x.christen(0, 1) ? 1 : 0, day < ripe ? 1 : 0);
                Due.same("its sound", x.apple(0, 6), day < ripe ? 1 : 0);
            }
        }
    }

    // "by another SOUND told"
    private static void anotherSound() {
        NameOrchard x = Due.told(FOUR);
        Due.no("its own", x.christen(0, 0));
        Due.yes("kim", x.christen(0, 4));
        Due.no("kim again", x.christen(0, 4));
        Due.yes("sam", x.christen(0, 5));
        Due.yes("its first one", x.christen(0, 0));
        for (int bad : BAD) {
            Due.no("no sound " + bad, x.christen(0, bad));
        }
        Due.no("a seventh", x.christen(0, 6));
        Due.same("three", x.count(12), 3);
    }

    // "that no other one that hangs has"
    private static void thatNoOtherHas() {
        String text = "apple a plain at 0 0 ripe 9 worth 0;apple b plain at 0 0 ripe 9 worth 0;other c;other d;";
        NameOrchard x = Due.told(text);
        Due.no("b has it", x.christen(0, 1));
        Due.no("a has it", x.christen(1, 0));
        Due.yes("a is c", x.christen(0, 2));
        Due.no("a has it", x.christen(1, 2));
        Due.yes("b is a: nobody has it now", x.christen(1, 0));
        Due.no("a can't be a", x.christen(0, 0));
        Due.yes("a is b", x.christen(0, 1));
        x.pick(1);
        Due.yes("b that hangs no more has none", x.christen(0, 0));
        Due.same("the fallen one keeps it", x.apple(1, 6), 0);
        x.undo();
        x.undo();
        Due.no("it hangs again", x.christen(0, 0));
    }

    private static void oneThatHangs() {
        NameOrchard x = Due.told(FOUR);
        for (int bad : BAD) {
            Due.no("no apple " + bad, x.christen(bad, 4));
        }
        Due.no("a fifth", x.christen(4, 4));
        x.pick(0);
        Due.no("it doesn't hang", x.christen(0, 4));
        Due.no("nothing", new NameOrchard().christen(0, 0));
    }

    private static void refusedNames() {
        NameOrchard x = Due.told(FOUR);
        x.pass(1);
        String before = Due.state(x);
        int[][] bad = {{0, 0}, {0, 1}, {1, 4}, {2, 5}, {3, 4}, {4, 4}, {-1, 4}, {0, 6}, {0, -1}};
        for (int[] b : bad) {
            Due.no("christen " + b[0] + " " + b[1], x.christen(b[0], b[1]));
        }
        Due.text("all stays", Due.state(x), before);
        Due.same("one to undo", x.count(12), 1);
    }

    // "So many DAYS (1 to 30): the day then; NONE: others."
    private static void oneToThirty() {
        NameOrchard x = Due.told(FOUR);
        for (int bad : new int[] {0, -1, 31, 32, 60, Integer.MAX_VALUE, Integer.MIN_VALUE}) {
            Due.same("pass " + bad, x.pass(bad), -1);
        }
        Due.same("still day 0", x.count(7), 0);
        Due.same("nothing to undo", x.count(12), 0);
        int day = 0;
        for (int many = 1; many <= 30; many++) {
            day += many;
            Due.same("pass " + many, x.pass(many), day);
        }
        Due.same("day 465", x.count(7), 465);
        Due.same("of nothing, too", new NameOrchard().pass(30), 30);
    }

    // "DAY: the next one."
    private static void theNextOne() {
        NameOrchard x = Due.told(FOUR);
        x.call(0, 2);
        x.pick(1);
        x.pass(30);
        Due.same("none was picked", x.count(14), 0);
        Due.same("had stays", x.count(8), 6);
        Due.same("loose stays", x.apple(2, 7), 1);
        Due.same("what hangs stays", x.count(6), 3);
        NameOrchard y = Due.told(FOUR);
        for (int i = 0; i < 400; i++) {
            y.pass(30);
        }
        Due.same("day 12000", y.count(7), 12000);
        Due.same("ripe", y.apple(0, 9), 10);
    }

    // "An object is used for at most 512 calls after it has been made": up to the last one of these.
    private static void fiveHundredAndTwelve() {
        NameOrchard x = new NameOrchard();
        int calls = 1 + (FOUR.length() + 23) / 24;
        Due.same("the orchard", Due.orchard(x, FOUR), 0);
        for (int i = 0; calls < 508; i++, calls += 4) {
            Due.same("would fall", x.falls(0, 4), 10);
            Due.same("falls", x.call(0, 4), 10);
            Due.yes("undone", x.undo());
            Due.same("a mark of " + i, x.mark(i & 3, (i & 4) != 0) ? 1 : 0, 1);
        }
        for (; calls < 511; calls++) {
            Due.same("all hang", x.count(6), 4);
        }
        Due.same("the 512th", x.call(0, 4), 10);
    }

    // "UNDO: these, the last 16"
    private static void theLastSixteen() {
        for (int many = 14; many <= 19; many++) {
            NameOrchard x = Due.told(FOUR);
            for (int i = 1; i <= many; i++) {
                x.pass(i);
            }
            int left = Math.min(16, many);
            Due.same(many + " passed", x.count(12), left);
            for (int i = 0; i < left; i++) {
                Due.yes("undo " + i + " of " + many, x.undo());
                int still = many - 1 - i;
                Due.same("the day", x.count(7), still * (still + 1) / 2);
                Due.same("left", x.count(12), left - 1 - i);
            }
            Due.no("one more of " + many, x.undo());
            Due.same("no more of " + many, x.count(12), 0);
        }
        NameOrchard y = new NameOrchard();
        Due.no("nothing at first", y.undo());
        for (int i = 0; i < 100; i++) {
            y.pass(1);
        }
        Due.same("sixteen of a hundred", y.count(12), 16);
        Due.yes("undo", y.undo());
        y.pass(5);
        y.pass(5);
        Due.same("sixteen again", y.count(12), 16);
        for (int i = 0; i < 16; i++) {
            Due.yes("undo", y.undo());
        }
        Due.same("day 85", y.count(7), 85);
        Due.no("no more", y.undo());
    }

    // "one by one (one call by hand is one thing to be undone, also so many DAYS)"
    private static void oneByOne() {
        NameOrchard x = Due.told(FOUR);
        x.pass(30);
        Due.same("thirty days are one", x.count(12), 1);
        x.call(0, 1);
        Due.same("a call by which two fall is one", x.count(12), 2);
        x.call(0, 5);
        Due.same("a call by which none falls is one", x.count(12), 3);
        x.pick(2);
        x.pass(1);
        Due.same("five", x.count(12), 5);
        x.undo();
        Due.same("one was picked", x.count(14), 1);
        x.undo();
        Due.same("none was", x.count(14), 0);
        x.undo();
        Due.same("two hang", x.count(6), 1);
        x.undo();
        Due.same("all hang", x.count(6), 4);
        x.undo();
        Due.same("day 0", x.count(7), 0);
        Due.no("no more", x.undo());
    }

    // "UNDO: these": nothing else is to be undone.
    private static void whatIsNoneOfThese() {
        NameOrchard x = Due.told(FOUR + "page tom;page tim;bann tom tim;stranger tom 5;");
        x.lies(0, true);
        x.tell(0, 1, true);
        x.mark(0, false);
        Due.days(x, "day;");
        Due.state(x);
        x.best(0, 5);
        x.thief(0, 0, 6);
        Due.same("nothing", x.count(12), 0);
        Due.no("nothing", x.undo());
        x.pass(1);
        x.lies(1, true);
        x.tell(0, 1, true);
        Due.days(x, "day;day;");
        Due.yes("the day", x.undo());
        Due.same("lies", x.count(10), 2);
        Due.same("told", x.count(11), 2);
        Due.same("lines", x.count(9), 2);
    }

    private static void undoOfEach() {
        NameOrchard x = Due.told(FOUR);
        String[] before = new String[6];
        for (int i = 0; i < 5; i++) {
            before[i] = seen(x);
            switch (i) {
                case 0 -> x.call(0, 2);
                case 1 -> x.call(0, 4);
                case 2 -> x.christen(0, 4);
                case 3 -> x.pick(2);
                default -> x.pass(3);
            }
        }
        for (int i = 4; i >= 0; i--) {
            Due.yes("undo", x.undo());
            Due.text("as ahead of " + i, seen(x), before[i]);
        }
    }

    /** What undoing brings back. */
    private static String seen(NameOrchard x) {
        StringBuilder s = new StringBuilder();
        for (int apple = 0; apple < 4; apple++) {
            for (int what = 5; what < 10; what++) {
                s.append(x.apple(apple, what)).append(' ');
            }
        }
        for (int what = 6; what < 9; what++) {
            s.append(x.count(what)).append(' ');
        }
        return s.append(x.count(14)).append(' ').append(x.count(12)).toString();
    }

    private static void judge(String text, String days, int refused, int green, int had) {
        NameOrchard x = Due.told(text);
        Due.same("days " + days, Due.days(x, days), 0);
        Due.same("refused: " + days, x.judged(0), refused);
        Due.same("green: " + days, x.judged(1), green);
        Due.same("had: " + days, x.judged(2), had);
    }

    // "what 0, 1: lines (NONE: none), 2: HAD"
    private static void noLines() {
        judge(FOUR, "", -1, -1, 0);
        judge("", "day;".repeat(40), -1, -1, 0);
        NameOrchard x = new NameOrchard();
        Due.same("refused", x.judged(0), -1);
        Due.same("green", x.judged(1), -1);
        Due.same("had", x.judged(2), 0);
    }

    // "the DAYS from the beginning"
    private static void fromTheBeginning() {
        NameOrchard x = Due.told(FOUR);
        Due.days(x, "call joe llew;pick tim;call joe tom;");
        x.call(0, 2);
        x.call(0, 4);
        x.christen(0, 5);
        x.pick(2);
        x.pass(9);
        Due.same("nothing is refused", x.judged(0), -1);
        Due.same("tom is green", x.judged(1), 2);
        Due.same("llew is not loose, all hang, day 0", x.judged(2), 6);
        Due.same("by hand all is as it was", x.count(6) * 100 + x.count(8), 100 + 15 + 30);
        Due.same("the day", x.count(7), 9);
    }

    // "the first line (from 0) that can't be: a call of what he can't say, a pick of what does not hang"
    private static void firstThatCannotBe() {
        judge(FOUR, "call meg tom;", 0, -1, 0);
        judge(FOUR, "call meg tim;", 0, -1, 0);
        judge(FOUR, "day;".repeat(39) + "call meg tom;", 39, -1, 0);
        judge(FOUR, "pick tim;day;pick tim;", 2, -1, 6);
        judge(FOUR, "day;day;day;call joe tom;pick tom;call meg tom;", 4, -1, 10 + 6 + 9);
        judge(FOUR, "call meg kim;call joe kim;", -1, -1, 15);
        judge(FOUR, "call meg sam;call meg tom;call meg tim;", 1, -1, 0);
    }

    // "a second one of a day"
    private static void secondOfADay() {
        judge(FOUR, "pick tim;pick llew;", 1, -1, 6);
        judge(FOUR, "pick tim;day;pick llew;", -1, -1, 36);
        judge(FOUR, "pick tim;pick llew;day;pick llew;pick bess;", 1, -1, 36);
        judge(FOUR, "day;pick tim;day;day;pick bess;pick llew;", 5, -1, 15);
        // The one left out is not the one of the day.
        judge(FOUR, "pick tim;day;pick tim;pick llew;", 2, -1, 36);
    }

    // "the first one by which an APPLE FALLS green (ahead of its day)"
    private static void firstGreen() {
        judge(FOUR, "day;day;call joe tom;", -1, 2, 15);
        judge(FOUR, "day;day;day;call joe tom;", -1, -1, 25);
        judge(FOUR, "pick tom;", -1, -1, 0);
        judge(FOUR, "call joe kim;call joe tom;call joe tom;", -1, 1, 15);
        String twin = "apple a plain at 0 0 ripe 0 worth 1;apple b deaf at 0 9 ripe 1 worth 2;twin a b;"
                + "apple c plain at 0 0 ripe 9 worth 4;person p lane 0 loud 0;";
        judge(twin, "call p a;", -1, 0, 1);
        judge(twin, "day;call p a;", -1, -1, 3);
        judge(twin, "day;call p a;call p c;", -1, 2, 3);
        judge(twin, "call p c;call p a;", -1, 0, 1);
    }

    // "(a line that can't be is left out)"; "HAD at last"
    private static void leftOut() {
        judge(FOUR, "call meg tom;pick tim;pick llew;call joe llew;call joe llew;", 0, -1, 36);
        judge(FOUR, "call joe llew;call meg tom;call meg llew;", 1, -1, 30);
        judge(FOUR + "value base*50-age;", "pick tim;day;pick llew;day;call joe tom;", -1, 4, 300 + 999 + 501);
    }

    // "-2: others"
    private static void othersOfJudged() {
        NameOrchard x = Due.told(FOUR);
        for (int what : new int[] {-1, -2, 3, 4, Integer.MAX_VALUE, Integer.MIN_VALUE}) {
            Due.same("judged " + what, x.judged(what), -2);
            Due.same("judged of nothing " + what, new NameOrchard().judged(what), -2);
        }
    }

    // "MARKS 0 to 3"
    private static void noughtToThree() {
        NameOrchard x = Due.told(FOUR);
        for (int bad : new int[] {-1, 4, 5, 31, 32, 33, Integer.MAX_VALUE, Integer.MIN_VALUE}) {
            Due.no("mark " + bad, x.mark(bad, false));
            Due.no("back " + bad, x.mark(bad, true));
        }
        for (int mark = 0; mark < 4; mark++) {
            Due.yes("mark " + mark, x.mark(mark, false));
            Due.no("mark 32 behind it", x.mark(mark + 32, true));
        }
    }

    // "false: none such, nothing is on it (back)"
    private static void nothingOnIt() {
        NameOrchard x = Due.told(FOUR);
        x.call(0, 1);
        String before = Due.state(x);
        for (int mark = 0; mark < 4; mark++) {
            Due.no("nothing on " + mark, x.mark(mark, true));
        }
        Due.text("all stays", Due.state(x), before);
        x.mark(2, false);
        for (int mark = 0; mark < 4; mark++) {
            Due.same("back " + mark, x.mark(mark, true) ? 1 : 0, mark == 2 ? 1 : 0);
        }
        Due.same("an orchard", Due.orchard(x, FOUR), 0);
        Due.no("takes it away", x.mark(2, true));
    }

    // "hold what hangs, SOUNDS, what is loose, the day, what was picked, HAD, the DAYS, what LIES, what is TOLD"
    private static void whatTheyHold() {
        for (int held = 0; held < 4; held++) {
            NameOrchard x = Due.told(FOUR);
            String then = "";
            for (int mark = 0; mark < 4; mark++) {
                x.mark(mark, false);
                then = mark == held ? Due.state(x) : then;
                live(x, mark);
            }
            Due.yes("back to " + held, x.mark(held, true));
            Due.text("as it was at " + held, Due.state(x), then.replaceFirst(" 12:\\d+ ", " 12:0 "));
        }
    }

    /** Something of all that a mark holds is changed. */
    private static void live(NameOrchard x, int time) {
        switch (time) {
            case 0 -> {
                x.call(0, 2);
                x.pick(1);
                Due.days(x, "call joe llew;day;");
            }
            case 1 -> {
                x.christen(0, 4);
                x.lies(0, true);
                x.tell(0, 1, true);
            }
            default -> {
                x.pass(time);
                x.lies(0, false);
                x.lies(3, true);
                x.tell(0, 2, false);
                Due.days(x, "day;");
            }
        }
    }

    // "(nothing can be undone when one is gone back to)"
    private static void nothingUndoneBehindIt() {
        NameOrchard x = Due.told(FOUR);
        x.pass(1);
        x.mark(0, false);
        Due.same("a mark laid leaves what can be undone", x.count(12), 1);
        x.pass(1);
        x.undo();
        x.undo();
        Due.same("day 0", x.count(7), 0);
        Due.yes("a mark lasts when its day is undone", x.mark(0, true));
        Due.same("day 1", x.count(7), 1);
        Due.no("nothing", x.undo());
        x.pass(1);
        Due.yes("what comes then can be", x.undo());
        Due.no("no more", x.undo());
    }

    private static void lieAsLaid() {
        NameOrchard x = Due.told(FOUR);
        x.mark(3, false);
        x.pick(0);
        x.mark(3, false);
        x.pass(1);
        Due.yes("back", x.mark(3, true));
        Due.same("the one laid last", x.count(6), 3);
        x.pass(5);
        x.christen(0, 4);
        Due.yes("twice", x.mark(3, true));
        Due.same("it holds still", x.count(7), 0);
        Due.same("picked that day", x.pick(1), -1);
    }
}
