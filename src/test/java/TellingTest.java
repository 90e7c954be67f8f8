/** Promises 1 to 4: a new object, the tape, orchards and days told, and their faults. */
public final class TellingTest {
    private static final String TOM = "apple tom plain at 0 2 ripe 3 worth 10;";
    private static final String TIM = "apple tim plain at 4 2 ripe 0 worth 6;";
    private static final String TWO = TOM + TIM;
    private static final String JOE = "person joe lane 2 loud 1;";

    private TellingTest() {
    }

    public static void main(String[] args) {
        newObject();
        feeding();
        tokens();
        orchardKept();
        apples();
        twins();
        others();
        people();
        strangers();
        pages();
        banns();
        laws();
        depths();
        tooMany();
        names();
        days();
        Due.end();
    }

    private static void newObject() {
        NameOrchard x = new NameOrchard();
        Due.same("NONE", NameOrchard.NONE, -1);
        for (int what = 0; what < 15; what++) {
            Due.same("new: count " + what, x.count(what), 0);
        }
        Due.same("new: apple", x.apple(0, 0), -1);
        Due.same("new: near", x.near(0, 0, 3), -1);
        Due.same("new: says", x.says(0, 0), -1);
        Due.same("new: falls", x.falls(0, 0), -1);
        Due.same("new: judged", x.judged(0), -1);
        Due.no("new: undo", x.undo());
        Due.no("new: mark back", x.mark(0, true));
        Due.same("new: years", x.years(1, 60, 2), 0);
        Due.same("new: orchard of nothing", x.orchard(), 0);
        Due.same("new: days of nothing", x.days(), 0);
    }

    private static void feeding() {
        NameOrchard x = new NameOrchard();
        Due.same("feed of nothing", x.feed(0, 0, 0), 0);
        Due.same("feed of one", x.feed('a', 0, 0), 1);
        Due.same("signs left out: 9, 11, 31, 127, 255", x.feed(0x090b1f7fff000102L, -1, 0), 1);
        Due.same("signs taken: 10, 32, 126", x.feed(0, 0x0a207e0000000000L, 0), 4);
        Due.same("the count", x.count(13), 4);
        Due.same("it is fed in order: ~ is no token", x.orchard(), 1);
        Due.same("empty then", x.count(13), 0);
        for (int i = 0; i < 41; i++) {
            x.feed(0x2020202020202020L, 0x2020202020202020L, 0x2020202020202020L);
        }
        Due.same("984 signs", x.count(13), 984);
        Due.same("the 1000th is the last", x.feed(0x2020202020202020L, 0x3b20202020202020L, 0x3b3b3b3b3b3b3b3bL), 1000);
        Due.same("nothing more", x.feed(0x3b3b3b3b3b3b3b3bL, 0, 0), 1000);
        Due.same("the highest byte of b came behind those of a", x.orchard(), 1 + 16 * 992);
        Due.same("a whole tape of blanks", blanks(x), 0);
        Due.feed(x, "a\nb");
        Due.same("10 is a blank", x.days(), 1);
    }

    private static int blanks(NameOrchard x) {
        for (int i = 0; i < 60; i++) {
            x.feed(0x200a200a200a200aL, 0x2020202020202020L, 0x0a0a0a0a0a0a0a0aL);
        }
        return x.orchard();
    }

    private static void tokens() {
        Due.fault("\n\n apple\ntom plain at 0 2ripe 3worth 10;\n", 0, 0);
        Due.fault("apple tom plain at0 2 ripe3worth10;other kim;", 0, 0);
        Due.fault("apple tom5 plain", 1, 9);
        Due.fault("other abcdefgh;", 0, 0);
        Due.fault("other abcdefghi;", 1, 6);
        Due.fault("abcdefghi", 1, 0);
        Due.fault("near 9999;", 0, 0);
        Due.fault("near 00001;", 1, 5);
        Due.fault("near 12345;", 1, 5);
        Due.fault("near 0001size;", 1, 9);
        Due.fault("apple a plain at 1 12345 ripe 0 worth 0;", 1, 19);
        Due.fault("apple a plain at 1 00001 ripe 0 worth 0;", 1, 19);
        Due.fault("apple abcdefgh abcdefghplain at 1 1 ripe 0 worth 0;", 1, 15);
        Due.fault("other Tom;", 1, 6);
        Due.fault("other tom:", 1, 9);
        Due.fault("#", 1, 0);
        Due.fault("  ", 0, 0);
        Due.fault("other tom  ", 1, 11);
        Due.fault("other", 1, 5);
        Due.fault(";", 1, 0);
        Due.fault("tom", 1, 0);
        Due.fault("call tom tom;", 1, 0);
        Due.fault("day;", 1, 0);
        Due.fault("near 1<2 ]", 1, 9);
    }

    private static void orchardKept() {
        NameOrchard x = Due.told(TWO + JOE);
        x.call(0, 0);
        x.lies(0, true);
        x.tell(0, 1, true);
        x.mark(2, false);
        Due.same("days", Due.days(x, "day;day;"), 0);
        x.pass(2);
        Due.same("a fault", Due.orchard(x, "other"), 1 + 16 * 5);
        Due.same("the tape is empty", x.count(13), 0);
        int[] kept = {2, 2, 1, 0, 0, 0, 1, 2, 0, 2, 1, 1, 2, 0, 0};
        for (int what = 0; what < kept.length; what++) {
            Due.same("all stays: count " + what, x.count(what), kept[what]);
        }
        Due.yes("the mark stays", x.mark(2, true));
        x.pick(1);
        Due.same("the same again", Due.orchard(x, TWO + JOE + "other a;"), 0);
        int[] fresh = {2, 3, 1, 0, 0, 0, 2, 0, 0, 0, 0, 0, 0, 0, 0};
        for (int what = 0; what < fresh.length; what++) {
            Due.same("all begins: count " + what, x.count(what), fresh[what]);
        }
        Due.no("no mark", x.mark(2, true));
        Due.no("nothing to undo", x.undo());
        Due.same("nothing at all", x.orchard(), 0);
        Due.same("no apples", x.count(0), 0);
    }

    private static void apples() {
        Due.fault(TOM, 0, 0);
        Due.fault("apple a plain at 11 11 ripe 60 worth 99;", 0, 0);
        Due.fault("apple a plain at 12 0;", 4, 17);
        Due.fault("apple a plain at 0 12;", 4, 19);
        Due.fault("apple a plain at 0 0 ripe 61;", 4, 26);
        Due.fault("apple a plain at 0 0 ripe 0 worth 100;", 4, 34);
        Due.fault("apple a at 0 0;", 1, 8);
        Due.fault("apple a odd at 0 0;", 1, 8);
        Due.fault("apple plain plain at 0 0;", 1, 6);
        Due.fault("apple 5 plain", 1, 6);
        Due.fault("apple a plain 0 0", 1, 14);
        Due.fault("apple a plain at 0 ripe", 1, 19);
        Due.fault("apple a plain at 0 0 worth", 1, 21);
        Due.fault("apple a plain at 0 0 ripe 1;", 1, 27);
        Due.fault("apple a plain at 0 0 ripe 1 worth 1", 1, 35);
        Due.fault(TOM + "apple tom", 3, TOM.length() + 6);
    }

    private static void twins() {
        Due.fault(TWO + "twin tom tim;", 0, 0);
        Due.fault("twin a b;", 2, 5);
        Due.fault(TOM + "twin tom b;", 2, TOM.length() + 9);
        Due.fault(TOM + "twin tom tom;", 3, TOM.length() + 9);
        Due.fault(TWO + "other kim;twin kim tom;", 2, TWO.length() + 15);
        Due.fault(TWO + JOE + "twin joe tom;", 2, TWO.length() + JOE.length() + 5);
        String third = TWO + "apple ann deaf at 1 1 ripe 1 worth 1;twin tom tim;";
        Due.fault(third + "twin ann tim;", 3, third.length() + 9);
        Due.fault(third + "twin tim ann;", 3, third.length() + 5);
        Due.fault(third + "twin tom tim;", 3, third.length() + 5);
        Due.fault(third + "twin ann ann;", 3, third.length() + 9);
        Due.fault(TWO + "twin tom;", 1, TWO.length() + 8);
        Due.fault(TWO + "twin not tom;", 1, TWO.length() + 5);
        Due.fault(TWO + "twin tom tim tom;", 1, TWO.length() + 13);
        Due.fault("twin tom tim;" + TWO, 2, 5);
    }

    private static void others() {
        Due.fault("other a;other a;", 3, 14);
        Due.fault(TOM + "other tom;", 3, TOM.length() + 6);
        Due.fault("other a;apple a plain", 3, 14);
        Due.fault("other a b;", 1, 8);
        Due.fault("other other;", 1, 6);
        NameOrchard x = Due.told("other kim;" + TOM + "other ann;" + TIM);
        Due.same("numbered alike: tom", x.apple(0, 6), 1);
        Due.same("numbered alike: tim", x.apple(1, 6), 3);
        Due.same("sounds", x.count(1), 4);
        Due.same("apples", x.count(0), 2);
    }

    private static void people() {
        Due.fault("person a lane 11 loud 6;", 0, 0);
        Due.fault("person a lane 12 loud 1;", 4, 14);
        Due.fault("person a lane 1 loud 7;", 4, 21);
        Due.fault("person a lane 1 loud 1 not b;", 2, 27);
        Due.fault("person a lane 1 loud 1 not a;", 2, 27);
        Due.fault("person a lane 1 loud 1 not;", 1, 26);
        Due.fault("person a lane 1 loud 1 kim;", 1, 23);
        Due.fault("person a loud 1;", 1, 9);
        Due.fault("other b;person a lane 1 loud 1 not b;", 0, 0);
        Due.fault("other b;person b lane 1 loud 1;", 3, 15);
        Due.fault(JOE + "person joe", 3, JOE.length() + 7);
        Due.fault(JOE + "other joe;", 3, JOE.length() + 6);
        Due.fault(JOE + "apple joe plain", 3, JOE.length() + 6);
        Due.fault("person lane lane 1 loud 1;", 1, 7);
    }

    private static void strangers() {
        Due.fault(TOM + "stranger tom 10;", 0, 0);
        Due.fault(TOM + "stranger tom 11;", 4, TOM.length() + 13);
        Due.fault("stranger a 5;", 2, 9);
        Due.fault(JOE + "stranger joe 5;", 2, JOE.length() + 9);
        Due.fault("other a;stranger a 5;stranger a 5;", 3, 30);
        Due.fault("other a;stranger a;", 1, 18);
        Due.fault("other a;stranger 5;", 1, 17);
    }

    private static void pages() {
        Due.fault(TWO + "page tim;page tim tom;", 0, 0);
        Due.fault("page;", 1, 4);
        Due.fault("page a;", 2, 5);
        Due.fault(TWO + "other kim;page tim kim;", 2, TWO.length() + 19);
        Due.fault(TWO + "page tim tom tim;", 3, TWO.length() + 13);
        Due.fault(TWO + "page tim tom", 1, TWO.length() + 12);
        Due.fault(TWO + "page tim 4;", 1, TWO.length() + 9);
        Due.fault(TWO + "page tim page tom;", 1, TWO.length() + 9);
    }

    private static void banns() {
        Due.fault(TWO + "bann tom tim;bann tim tom;", 0, 0);
        Due.fault("bann a b;", 2, 5);
        Due.fault("other a;bann a b;", 2, 15);
        Due.fault("other a;bann a a;", 3, 15);
        Due.fault("other a;bann a;", 1, 14);
        Due.fault("other a;other b;bann a b a;", 1, 25);
    }

    private static void laws() {
        Due.fault("near edits<2;value base+age;", 0, 0);
        Due.fault("near 1;near 1;", 3, 7);
        Due.fault("value 1;near 1;value 1;", 3, 15);
        Due.fault("near age;", 1, 5);
        Due.fault("near base;", 1, 5);
        Due.fault("value edits;", 1, 6);
        Due.fault("value start;", 1, 6);
        Due.fault("value rhyme;", 1, 6);
        Due.fault("value size;", 1, 6);
        Due.fault("near ;", 1, 5);
        Due.fault("near 1", 1, 6);
        Due.fault("near tom;", 1, 5);
        Due.fault("near edits<1<2;", 1, 12);
        Due.fault("near edits=1<2;", 1, 12);
        Due.fault("near (edits=1)<2;", 0, 0);
        Due.fault("near edits=1 and 1<2 or not start;", 0, 0);
        Due.fault("near edits and;", 1, 14);
        Due.fault("near edits+;", 1, 11);
        Due.fault("near +1;", 1, 5);
        Due.fault("near -1;", 1, 5);
        Due.fault("near 1+-1;", 1, 7);
        Due.fault("near (1;", 1, 7);
        Due.fault("near 1);", 1, 6);
        Due.fault("near ();", 1, 6);
        Due.fault("near 1 1;", 1, 7);
        Due.fault("near not;", 1, 8);
        Due.fault("near 1 not 1;", 1, 7);
        Due.fault("near (1)(1);", 1, 8);
        Due.fault("near 1 and and 1;", 1, 11);
        Due.fault("near not not(not 1);", 0, 0);
    }

    private static void depths() {
        Due.fault("near ((((1))));", 0, 0);
        Due.fault("near (((((1)))));", 5, 10);
        Due.fault("near ((((((1))))));", 5, 10);
        Due.fault("near (((((", 1, 10);
        Due.fault("near ((((()))));", 1, 10);
        Due.fault("near not not not not 1;", 0, 0);
        Due.fault("near not not not not not 1;", 5, 25);
        Due.fault("near not not not not not not 1;", 5, 25);
        Due.fault("near not(not(1+not 1));", 5, 19);
        Due.fault("near not(not(1+1));", 0, 0);
        Due.fault("near ((((1)+1)+1)+1)+((((1))));", 0, 0);
        Due.fault("value not not not not base*not not not not age;", 0, 0);
        Due.fault("near 1+((((1+(2)))));", 5, 14);
        Due.fault("near (1)+(((((1)))));", 5, 14);
        Due.fault("near (1)+((((1))));", 0, 0);
        Due.fault("near not 1+not not not not not 1;", 5, 31);
        Due.fault("near not(1)+not(not(not 1));", 5, 24);
        Due.fault("near not(1)+not(not(1));", 0, 0);
    }

    private static void tooMany() {
        StringBuilder ten = new StringBuilder();
        StringBuilder six = new StringBuilder();
        StringBuilder five = new StringBuilder();
        for (char c = 'a'; c < 'k'; c++) {
            ten.append("apple ").append(c).append(" plain at 0 0 ripe 0 worth 0;");
        }
        for (char c = 'l'; c < 'r'; c++) {
            six.append("other ").append(c).append(';');
        }
        for (char c = 's'; c < 'x'; c++) {
            five.append("person ").append(c).append(" lane 0 loud 0;");
        }
        Due.fault(ten.toString() + six + five, 0, 0);
        Due.fault(ten + "apple a", 5, ten.length());
        Due.fault(ten + "apple", 5, ten.length());
        Due.fault(six + "other l;", 5, six.length());
        Due.fault(ten.toString() + six + "other x;", 5, ten.length() + six.length());
        Due.fault(five + "person s", 5, five.length());
        StringBuilder strangers = new StringBuilder(six);
        for (char c = 'l'; c < 'r'; c++) {
            strangers.append("stranger ").append(c).append(" 1;");
        }
        Due.fault(strangers.toString(), 0, 0);
        Due.fault(strangers + "stranger l 1;", 5, strangers.length());
        String pages = TWO + "page tom;page tom;page tom;page tim tom;";
        Due.fault(pages, 0, 0);
        Due.fault(pages + "page;", 5, pages.length());
        String banns = TWO + "bann tom tim;bann tom tim;bann tim tom;bann tim tom;";
        Due.fault(banns, 0, 0);
        Due.fault(banns + "bann", 5, banns.length());
        Due.fault("page#" + pages, 1, 4);
        NameOrchard x = Due.told(ten.toString() + six + "page a b c d e f g h i j;");
        Due.same("sixteen sounds", x.count(1), 16);
        Due.same("ten hang", x.count(6), 10);
    }

    private static void names() {
        for (String word : Oracle.KEYWORDS) {
            Due.fault("other " + word + ";", 1, 6);
        }
        for (String word : new String[] {"edits", "start", "rhyme", "size", "base", "age", "days", "sing", "appl"}) {
            Due.fault("other " + word + ";", 0, 0);
            Due.fault("apple " + word + " alias at 0 0 ripe 0 worth 0;page " + word + ";", 0, 0);
            Due.fault("person " + word + " lane 0 loud 0;", 0, 0);
        }
    }

    private static void days() {
        NameOrchard x = Due.told(TWO + JOE + "other kim;");
        Due.same("days", Due.days(x, "call joe kim;day;pick tim;call joe tom;"), 0);
        Due.same("lines", x.count(9), 4);
        Due.same("the tape is empty", x.count(13), 0);
        Due.same("no person", Due.days(x, "call tom tom;"), 2 + 16 * 5);
        Due.same("no person told", Due.days(x, "call meg tom;"), 2 + 16 * 5);
        Due.same("no sound", Due.days(x, "call joe joe;"), 2 + 16 * 9);
        Due.same("no sound told", Due.days(x, "call joe ann;"), 2 + 16 * 9);
        Due.same("no name", Due.days(x, "call joe;"), 1 + 16 * 8);
        Due.same("a word that is none", Due.days(x, "call day tom;"), 1 + 16 * 5);
        Due.same("no apple", Due.days(x, "day;pick kim;"), 2 + 16 * 9);
        Due.same("no apple, but a person", Due.days(x, "pick joe;"), 2 + 16 * 5);
        Due.same("no stop", Due.days(x, "day"), 1 + 16 * 3);
        Due.same("no line", Due.days(x, "sing;"), 1);
        Due.same("a line of an orchard", Due.days(x, "other a;"), 1);
        Due.same("one too many a name", Due.days(x, "pick tom tim;"), 1 + 16 * 9);
        Due.same("a strange sign", Due.days(x, "pick tom;?"), 1 + 16 * 9);
        Due.same("the tape is empty after a fault", x.count(13), 0);
        Due.same("the lines stay", x.count(9), 4);
        String forty = "day;day;day;day;day;day;day;day;day;day;".repeat(4);
        Due.same("forty", Due.days(x, forty), 0);
        Due.same("forty lines", x.count(9), 40);
        Due.same("a 41st day", Due.days(x, forty + "day"), 5 + 16 * 160);
        Due.same("a 41st call", Due.days(x, forty + "call"), 5 + 16 * 160);
        Due.same("a 41st pick", Due.days(x, forty + "pick kim;"), 5 + 16 * 160);
        Due.same("what can't stand there is no line", Due.days(x, forty + "sing"), 1 + 16 * 160);
        Due.same("none", x.days(), 0);
        Due.same("no lines", x.count(9), 0);
        Due.same("the days change no orchard", x.count(6) * 100 + x.count(7), 200);
    }
}
