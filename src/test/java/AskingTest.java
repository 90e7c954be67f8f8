/** Promises 5 to 8 and 28: what is asked of apples, of sounds, of people, of what would fall, and counts. */
public final class AskingTest {
    private AskingTest() {
    }

    public static void main(String[] args) {
        apples();
        valuesNow();
        lettersApart();
        nearness();
        laws();
        saying();
        falling();
        echoes();
        welshOnes();
        aliases();
        twins();
        counts();
        Due.end();
    }

    private static void apples() {
        NameOrchard x = Due.told("other kim;apple tom plain at 1 2 ripe 3 worth 10;apple tim alias at 4 5 ripe 6 worth 7;"
                + "apple llew welsh at 8 9 ripe 10 worth 11;apple bess deaf at 11 0 ripe 60 worth 99;twin bess tom;");
        int[][] due = {{0, 1, 2, 3, 10, 1, 1, 0, 3}, {1, 4, 5, 6, 7, 1, 2, 0, -1}, {2, 8, 9, 10, 11, 1, 3, 0, -1},
            {3, 11, 0, 60, 99, 1, 4, 0, 0}};
        for (int apple = 0; apple < 4; apple++) {
            for (int what = 0; what < 9; what++) {
                Due.same("apple " + apple + " " + what, x.apple(apple, what), due[apple][what]);
            }
            Due.same("apple what 10", x.apple(apple, 10), -1);
            Due.same("apple what -1", x.apple(apple, -1), -1);
        }
        Due.same("apple 4", x.apple(4, 0), -1);
        Due.same("apple -1", x.apple(-1, 0), -1);
        Due.same("apple of the most", x.apple(Integer.MAX_VALUE, 5), -1);
        Due.same("apple of the least", x.apple(Integer.MIN_VALUE, 9), -1);
        x.pick(0);
        Due.same("a fallen one hangs no more", x.apple(0, 5), 0);
        Due.same("it keeps its sound", x.apple(0, 6), 1);
        Due.same("it keeps its twin", x.apple(0, 8), 3);
        Due.same("it keeps its worth", x.apple(0, 4), 10);
    }

    private static void valuesNow() {
        NameOrchard x = Due.told("apple a plain at 0 0 ripe 2 worth 10;");
        Due.same("green: nothing", x.apple(0, 9), 0);
        x.pass(1);
        Due.same("still green", x.apple(0, 9), 0);
        x.pass(1);
        Due.same("ripe on its day", x.apple(0, 9), 10);
        x.pass(30);
        Due.same("and later", x.apple(0, 9), 10);
        x = Due.told("apple a plain at 0 0 ripe 2 worth 10;value base-age*age;");
        Due.same("10 - 4", x.apple(0, 9), 6);
        x.pass(3);
        Due.same("10 - 1", x.apple(0, 9), 9);
        x.pass(2);
        Due.same("10 - 9", x.apple(0, 9), 1);
        x.pass(1);
        Due.same("10 - 16 is nothing", x.apple(0, 9), 0);
        x = Due.told("apple a plain at 0 0 ripe 2 worth 10;value base*99+9+age*2-0;");
        Due.same("995", x.apple(0, 9), 995);
        x.pass(2);
        Due.same("999", x.apple(0, 9), 999);
        x.pass(1);
        Due.same("1001 is 999", x.apple(0, 9), 999);
        x = Due.told("apple a plain at 0 0 ripe 0 worth 1;value 9999*9999*9999;");
        Due.same("ints wrap: -1897... is nothing", x.apple(0, 9), 9999 * 9999 * 9999 < 0 ? 0 : 999);
        x = Due.told("apple a plain at 0 0 ripe 0 worth 1;value 9999*9999*43;");
        Due.same("ints wrap", x.apple(0, 9), 9999 * 9999 * 43 < 0 ? 0 : 999);
    }

    private static void lettersApart() {
        NameOrchard x = Due.told("other kitten;other sitting;other a;other abcdefgh;other bcdefgha;other tom;");
        Due.same("kitten sitting", x.near(0, 1, 0), 3);
        Due.same("sitting kitten", x.near(1, 0, 0), 3);
        Due.same("a to eight", x.near(2, 3, 0), 7);
        Due.same("one turned", x.near(3, 4, 0), 2);
        Due.same("nothing alike", x.near(5, 3, 0), 8);
        Due.same("itself", x.near(3, 3, 0), 0);
        Due.same("start itself", x.near(3, 3, 1), 8);
        Due.same("rhyme itself", x.near(3, 3, 2), 8);
        Due.same("start none", x.near(0, 1, 1), 0);
        Due.same("rhyme none", x.near(0, 1, 2), 0);
        Due.same("start one", x.near(2, 3, 1), 1);
        Due.same("rhyme one", x.near(2, 4, 2), 1);
        Due.same("rhyme the other way", x.near(4, 2, 2), 1);
        Due.same("rhyme of first and last", x.near(2, 3, 2), 0);
        Due.same("what 4", x.near(0, 0, 4), -1);
        Due.same("what -1", x.near(0, 0, -1), -1);
        Due.same("called 6", x.near(6, 0, 0), -1);
        Due.same("called -1", x.near(-1, 0, 0), -1);
        Due.same("sound 6", x.near(0, 6, 3), -1);
        Due.same("sound -1", x.near(0, -1, 3), -1);
        Due.same("not near without the law", x.near(0, 1, 3), 0);
        Due.same("near to itself without the law", x.near(0, 0, 3), 1);
    }

    /** Which of tom, tim, thomas, tim's own are near to the one called, as bits, by a law. */
    private static int nearTo(String law, int called) {
        NameOrchard x = Due.told("other tom;other tim;other thomas;other om;near " + law + ";");
        int ones = 0;
        for (int sound = 0; sound < 4; sound++) {
            ones |= x.near(called, sound, 3) << sound;
        }
        return ones;
    }

    private static void nearness() {
        Due.same("edits", nearTo("edits<2", 0), 11);
        Due.same("edits less", nearTo("edits<1", 0), 1);
        Due.same("edits alone: what is not 0 is so", nearTo("edits", 0), 14);
        Due.same("start", nearTo("1=start", 0), 6);
        Due.same("rhyme", nearTo("rhyme=2", 0), 8);
        Due.same("size of the one called", nearTo("size=3", 0), 15);
        Due.same("size of the one called, not of the other", nearTo("size=6", 0), 0);
        Due.same("below nothing", nearTo("edits-1", 0), 5);
        Due.same("below nothing is so too", nearTo("0-edits", 0), 14);
        NameOrchard x = Due.told("apple tom alias at 0 0 ripe 0 worth 0;other tim;near edits<2;");
        Due.same("of two sounds, an alias or not", x.near(1, 0, 3), 1);
    }

    private static void law(String law, int due) {
        Due.same("near " + law, Due.told("other a;near " + law + ";").near(0, 0, 3), due);
    }

    private static void laws() {
        law("0", 0);
        law("0000", 0);
        law("1+2*3=7", 1);
        law("2*3+1=7", 1);
        law("8-3-2=3", 1);
        law("8-(3-2)=7", 1);
        law("2-3", 1);
        law("1<2", 1);
        law("2<1", 0);
        law("2<2", 0);
        law("2=2", 1);
        law("2=3", 0);
        law("(2=2)+(3=3)=2", 1);
        law("1 or 1 and 0", 0);
        law("(1 or (1 and 0))", 1);
        law("0 and 0 or 1", 1);
        law("0 and (0 or 1)", 0);
        law("1 or 0 and 1 or 0", 1);
        law("5 and 7=1", 0);
        law("(5 and 7)=1", 1);
        law("(0 or 9)=1", 1);
        law("not 0", 1);
        law("not 7", 0);
        law("(not not 7)=1", 1);
        law("not 0*0", 0);
        law("not(0*0)", 1);
        law("not 0=0", 0);
        law("not 5=0", 1);
        law("not 0+1=2", 1);
        law("3*not 0=3", 1);
        law("1=1 and 2=2", 1);
        law("1=1 and 2<2", 0);
        law("1=0 or 1<2", 1);
        law("1+1<2+1", 1);
        law("1+2<2+1", 0);
        law("2*2=2+2", 1);
        law("9999*9999*9999*9999*9999", 1);
        law("4096*4096*256", 0);
        law("4096*4096*128<0", 1);
        law("(((1)+1)*((1)+1))=4", 1);
        law("edits+start+rhyme+size=3", 1);
    }

    private static void saying() {
        NameOrchard x = Due.told("other tom;other kitty;other ann;other t;person a lane 0 loud 0 not tom;"
                + "person b lane 0 loud 0;person c lane 0 loud 0 not ann;");
        int[][] due = {{0, 0, 1, 0}, {1, 1, 1, 1}, {1, 1, 0, 1}};
        for (int person = 0; person < 3; person++) {
            for (int sound = 0; sound < 4; sound++) {
                Due.same("says " + person + " " + sound, x.says(person, sound), due[person][sound]);
            }
        }
        Due.same("says of no person", x.says(3, 0), -1);
        Due.same("says of no person", x.says(-1, 0), -1);
        Due.same("says no sound", x.says(0, 4), -1);
        Due.same("says no sound", x.says(0, -1), -1);
    }

    private static final String ROWS = "apple ra plain at 0 0 ripe 0 worth 1;apple rb plain at 5 1 ripe 9 worth 2;"
            + "apple rc plain at 7 2 ripe 0 worth 4;apple rd plain at 9 3 ripe 0 worth 8;"
            + "apple re plain at 9 4 ripe 0 worth 16;apple rf plain at 9 5 ripe 0 worth 32;near 1;";

    private static void falling() {
        NameOrchard x = Due.told(ROWS + "person p lane 0 loud 2;person q lane 3 loud 1;person r lane 4 loud 0;"
                + "person s lane 11 loud 3 not ra;");
        Due.same("two rows from lane 0", x.falls(0, 0), 7);
        Due.same("of none could he say less", x.falls(0, 5), 7);
        Due.same("one row from lane 3", x.falls(1, 0), 28);
        Due.same("just the lane", x.falls(2, 0), 16);
        Due.same("he can't say it", x.falls(3, 0), -1);
        Due.same("no person", x.falls(4, 0), -1);
        Due.same("no person", x.falls(-1, 0), -1);
        Due.same("no sound", x.falls(0, 6), -1);
        Due.same("no sound", x.falls(0, -1), -1);
        Due.same("nothing fell", x.count(6), 6);
        Due.same("nothing is loose", x.apple(3, 7), 0);
        Due.same("nothing to undo", x.count(12), 0);
        x.pick(0);
        Due.same("what hangs no more does not fall", x.falls(0, 0), 6);
        NameOrchard y = Due.told("apple a deaf at 0 0 ripe 0 worth 1;apple b plain at 0 0 ripe 0 worth 1;near 1;"
                + "person p lane 0 loud 6;");
        Due.same("a deaf one hears nothing", y.falls(0, 0), 2);
        NameOrchard z = Due.told("apple a plain at 0 0 ripe 0 worth 1;apple b plain at 0 0 ripe 0 worth 1;"
                + "near size=edits;apple abc plain at 0 0 ripe 0 worth 1;person p lane 0 loud 6;");
        Due.same("the called one comes first: a", z.falls(0, 0), 2);
        Due.same("the called one comes first: abc", z.falls(0, 2), 0);
    }

    private static void echoes() {
        NameOrchard x = Due.told(ROWS + "person p lane 0 loud 2;person q lane 5 loud 2;");
        Due.same("two wholly", x.call(0, 0), 7);
        Due.same("three hears an echo", x.apple(3, 7), 1);
        Due.same("four hears an echo", x.apple(4, 7), 1);
        Due.same("five does not", x.apple(5, 7), 0);
        Due.same("two echoes are a call", x.falls(0, 0), 24);
        Due.same("a call fells what is loose and what is not", x.falls(1, 0), 56);
        NameOrchard y = Due.told(ROWS + "person p lane 5 loud 0;");
        Due.same("loud 0: the lane alone, no echo", y.call(0, 0), 32);
        Due.same("nothing is loose", y.apple(4, 7), 0);
    }

    private static void welshOnes() {
        NameOrchard x = Due.told("apple a welsh at 0 0 ripe 0 worth 5;apple b welsh at 0 1 ripe 0 worth 5;near 1;"
                + "person p lane 0 loud 0;person q lane 2 loud 1;");
        Due.same("once is not enough", x.call(0, 0), 0);
        Due.same("it is loose", x.apple(0, 7), 1);
        Due.same("the other one heard nothing", x.apple(1, 7), 0);
        Due.same("twice is", x.falls(0, 0), 1);
        Due.same("a loose one falls by an echo, too; the other is loose then", x.call(1, 0), 1);
        Due.same("loose", x.apple(1, 7), 1);
        Due.same("a fallen one is loose no more", x.apple(0, 7), 0);
        Due.same("then it falls", x.call(1, 1), 2);
    }

    private static void aliases() {
        NameOrchard x = Due.told("apple tom alias at 0 0 ripe 9 worth 5;apple tim plain at 0 0 ripe 0 worth 5;"
                + "other tam;near edits<2;person p lane 0 loud 0;");
        Due.same("tom", x.falls(0, 0), 3);
        Due.same("tim is near, yet not the name", x.falls(0, 1), 2);
        Due.same("tam", x.falls(0, 2), 2);
        Due.yes("tom is tam now", x.christen(0, 2));
        Due.same("tom is not the name any more", x.falls(0, 0), 2);
        Due.same("tam is", x.falls(0, 2), 3);
        NameOrchard y = Due.told("apple tom alias at 0 0 ripe 9 worth 5;apple tim plain at 0 0 ripe 0 worth 5;"
                + "near 0;person p lane 0 loud 0;");
        Due.same("an alias needs no law", y.falls(0, 0), 1);
        Due.same("nothing is near by this law", y.falls(0, 1), 0);
    }

    private static void twins() {
        NameOrchard x = Due.told("apple a plain at 0 0 ripe 0 worth 5;apple b deaf at 0 9 ripe 0 worth 7;"
                + "apple c welsh at 0 0 ripe 0 worth 1;apple d plain at 0 9 ripe 0 worth 2;twin a b;twin d c;"
                + "near 1;person p lane 0 loud 0;person q lane 9 loud 0;");
        Due.same("the deaf twin falls too", x.falls(0, 0), 3);
        Due.same("the welsh twin falls too", x.falls(1, 0), 12);
        Due.same("the welsh one is loose", x.call(0, 0), 3);
        Due.same("twins of what is down already", x.call(0, 0), 12);
        NameOrchard y = Due.told("apple a plain at 0 0 ripe 0 worth 5;apple b plain at 0 9 ripe 0 worth 7;twin a b;"
                + "near 1;person p lane 0 loud 0;");
        y.pick(1);
        Due.same("a twin that hangs no more", y.call(0, 0), 1);
        Due.same("is had once", y.count(8), 12);
    }

    private static void counts() {
        NameOrchard x = Due.told(ROWS + "other oa;other ob;other oc;person p lane 0 loud 2;person q lane 3 loud 1;"
                + "stranger oa 1;stranger ra 2;stranger rb 3;stranger ob 4;page ra;page rb;page rc;bann ra rb;");
        int[] due = {6, 9, 2, 4, 3, 1, 6, 0, 0, 0, 0, 0, 0, 0, 0};
        for (int what = 0; what < due.length; what++) {
            Due.same("count " + what, x.count(what), due[what]);
        }
        Due.same("count 15", x.count(15), -1);
        Due.same("count -1", x.count(-1), -1);
        Due.same("count of the most", x.count(Integer.MAX_VALUE), -1);
        Due.days(x, "day;call p ra;day;");
        x.pass(3);
        x.pick(5);
        x.call(0, 0);
        x.lies(2, false);
        x.lies(3, true);
        x.lies(2, true);
        x.tell(0, 1, false);
        x.tell(0, 1, false);
        x.feed('a', 'b', 0);
        int[] then = {6, 9, 2, 4, 3, 1, 2, 3, 37, 3, 2, 2, 3, 2, 1};
        for (int what = 0; what < then.length; what++) {
            Due.same("then: count " + what, x.count(what), then[what]);
        }
    }
}
