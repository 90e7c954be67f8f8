/**
 * The boundary cases of the tape, of its tokens and of what is told (promises 1 to 4): a method for each sentence
 * of the document, which stands above it.
 */
public final class EdgeTellTest {
    private static final String TOM = "apple tom plain at 0 2 ripe 3 worth 10;";
    private static final String TIM = "apple tim plain at 4 2 ripe 0 worth 6;";
    private static final String KIM = "other kim;";
    private static final String JOE = "person joe lane 2 loud 1;";
    private static final String ALL = TOM + TIM + KIM + JOE;

    private EdgeTellTest() {
    }

    public static void main(String[] args) {
        theTape();
        theTokens();
        whatIsTold();
        whatIsTooMany();
        theFaults();
        Due.end();
    }

    private static void theTape() {
        aThousandSigns();
        anOrchardOfAThousandSigns();
        otherSignsAreLeftOut();
        theHighestFirst();
        itIsEmptyThen();
    }

    private static void theTokens() {
        asLongAsCanBe();
        blanksBetween();
        eightLetters();
        fourDigits();
        allElseIsNone();
    }

    private static void whatIsTold() {
        appleSorts();
        appleWhere();
        appleRipe();
        appleWorth();
        itsNameIsSoundSo();
        twoApplesNotTheSame();
        noneATwinAlready();
        aSoundThatNoAppleHas();
        numberedAsTold();
        personLane();
        personLoud();
        personNoSound();
        mute();
        stranger();
        strangerOnce();
        pageOfOne();
        pageOfEachOnce();
        bannOfTwo();
        onceEach();
        daysByPersonAndSound();
        daysByAppleAsTold();
        names();
        noTwoAlike();
    }

    private static void whatIsTooMany() {
        tenApples();
        sixOthers();
        fivePeople();
        sixStrangers();
        fourPages();
        fourBanns();
        fortyLines();
    }

    private static void theFaults() {
        anyNumberOf();
        placeFromZero();
        theEnd();
        theFirstFromTheLeft();
        theLeast();
        aboveAllNumbers();
        allStays();
        fromThenOn();
        threeOrchards();
        afterAFault();
        daysAreTheDays();
        nothingAtFirst();
    }

    private static void right(String text) {
        Due.fault(text, 0, 0);
    }

    /** The token behind what stands ahead is wrong. */
    private static void wrong(String ahead, int kind, String rest) {
        Due.fault(ahead + rest, kind, ahead.length());
    }

    private static void wrongDays(String ahead, int kind, String rest) {
        Due.same("days() of '" + ahead + rest + "'", Due.days(Due.told(ALL), ahead + rest), kind + 16 * ahead.length());
    }

    private static String blanks(int many) {
        return " ".repeat(many);
    }

    // "The TAPE has at most 1,000 signs"; "what is beyond 1,000, [is] left out: how many there are"
    private static void aThousandSigns() {
        NameOrchard x = new NameOrchard();
        Due.feed(x, blanks(984));
        Due.same("15 more", x.feed(0, 0x20202020202020L, 0x2020202020202020L), 999);
        Due.same("the thousandth", x.feed(0, 0, ' '), 1000);
        Due.same("one more", x.feed(0, 0, '?'), 1000);
        Due.same("24 more", x.feed(0x3f3f3f3f3f3f3f3fL, 0x3f3f3f3f3f3f3f3fL, 0x3f3f3f3f3f3f3f3fL), 1000);
        Due.same("the count", x.count(13), 1000);
        Due.same("what was beyond is left out", x.orchard(), 0);
        Due.feed(x, blanks(999));
        Due.same("some of one call are beyond", x.feed('?', '?', '?'), 1000);
        Due.same("the thousandth was taken", x.orchard(), 1 + 16 * 999);
        Due.feed(x, "x".repeat(1000));
        Due.same("a thousand once more", x.count(13), 1000);
        Due.same("that are no token", x.days(), 1);
    }

    private static void anOrchardOfAThousandSigns() {
        Due.fault(blanks(990) + KIM, 0, 0);
        Due.fault(KIM + blanks(990), 0, 0);
        Due.same("its sound", Due.told(blanks(990) + KIM).count(1), 1);
        Due.fault(blanks(991) + KIM, 1, 1000);
        Due.fault(KIM + blanks(989) + "?", 1, 999);
        Due.fault(KIM + blanks(990) + "?", 0, 0);
        NameOrchard x = new NameOrchard();
        Due.same("days of 1,000 signs", Due.days(x, "day;".repeat(39) + blanks(840) + "day;"), 0);
        Due.same("forty", x.count(9), 40);
        Due.same("their end is beyond", Due.days(x, blanks(997) + "day;"), 1 + 16 * 1000);
    }

    // "others than 10 and 32 .. 126 .. are left out"
    private static void otherSignsAreLeftOut() {
        for (int sign = 0; sign < 256; sign++) {
            NameOrchard x = new NameOrchard();
            int fits = sign == 10 || sign >= 32 && sign <= 126 ? 1 : 0;
            for (int shift = 0; shift < 64; shift += 8) {
                long eight = (long) sign << shift;
                int many = 3 * shift / 8 * fits;
                Due.same("sign " + sign + " in a", x.feed(eight, 0, 0), many + fits);
                Due.same("sign " + sign + " in b", x.feed(0, eight, 0), many + 2 * fits);
                Due.same("sign " + sign + " in c", x.feed(0, 0, eight), many + 3 * fits);
            }
        }
        NameOrchard x = new NameOrchard();
        Due.same("all bits", x.feed(-1, -1, -1), 0);
        Due.same("the least", x.feed(Long.MIN_VALUE, Long.MIN_VALUE, Long.MIN_VALUE), 0);
        Due.same("the most", x.feed(Long.MAX_VALUE, Long.MAX_VALUE, Long.MAX_VALUE), 0);
        Due.same("none", x.feed(0, 0, 0), 0);
    }

    // "the bytes of a, b, c, of each the highest first"
    private static void theHighestFirst() {
        NameOrchard x = new NameOrchard();
        // o t h 0 0 0 0 e, 255 r 1 2 3 " " a b, 0 .. ;
        x.feed(0x6f74680000000065L, 0xff72010203206162L, 0x3bL);
        Due.same("other ab;", x.orchard(), 0);
        Due.same("one sound", x.count(1), 1);
        x.feed(0x62, 0x61, 0x2072656874L);
        Due.same("turned round", x.orchard(), 1);
    }

    // "what reads it takes it: it is empty then"
    private static void itIsEmptyThen() {
        NameOrchard x = new NameOrchard();
        Due.same("right", Due.orchard(x, ALL), 0);
        Due.same("empty", x.count(13), 0);
        Due.same("wrong", Due.orchard(x, "other ?"), 1 + 16 * 6);
        Due.same("empty", x.count(13), 0);
        Due.same("the next signs are the first", x.feed(0, 0, '?'), 1);
        Due.same("wrong at once", x.days(), 1);
        Due.same("empty", x.count(13), 0);
        Due.same("days", Due.days(x, "day;"), 0);
        Due.same("empty", x.count(13), 0);
        Due.same("days of nothing", x.days(), 0);
        Due.same("an orchard of nothing", x.orchard(), 0);
        Due.same("nothing", x.count(1), 0);
    }

    // "TOKENS, each as long as can be"
    private static void asLongAsCanBe() {
        wrong("", 1, "otherkim;");
        right("other others;");
        wrong("near edits", 1, "1;");
        right("near edits<2or 1<rhyme;");
        right("near edits<2 or 1<rhyme;");
        right("near not1;");
        wrong("near ", 1, "notedits;");
        right("near not(edits);");
        right(TOM + "stranger tom 10;");
        right(TOM + "stranger tom10;");
        wrong(TOM + "stranger tom 1 ", 1, "0;");
        right("apple a plain at 1 1 ripe 0 worth 0;");
        wrong("apple a plain at 11 ", 1, "ripe 0 worth 0;");
    }

    // "blanks (10, 32) between where one likes"
    private static void blanksBetween() {
        right("\n apple \n tom\nplain at 0  2\n\nripe 3 worth 10 \n;\n ");
        right("apple tom plain at 0 2ripe 3worth 10;");
        right("apple tom plain at0 2ripe3worth10;other kim;");
        wrong("", 1, "ap ple tom plain at 0 2 ripe 3 worth 10;");
        wrong("near 1 ", 1, "2;");
        right("near ( edits\n< 2 )* 3 ;");
        right("near(edits<2)*3;");
        right(" ");
        right("\n");
    }

    // "WORDS (letters a .. z, 8 at most)"
    private static void eightLetters() {
        right("other a;");
        right("other z;");
        right("other abcdefgh;");
        right("other zzzzzzzz;");
        wrong("other ", 1, "abcdefghi;");
        wrong("other ", 1, "zzzzzzzzz;");
        wrong("other ", 1, "A;");
        wrong("other abc", 1, "Z;");
        right("other strange;");
        wrong("other a;", 1, "strangers a 1;");
        wrong("", 1, "abcdefghother a;");
    }

    // "NUMBERS (1 to 4 digits; a letter may stand right behind)"
    private static void fourDigits() {
        right("near 0;");
        right("near 9999;");
        right("near 0000;");
        wrong("near ", 1, "00000;");
        wrong("near ", 1, "10000;");
        wrong("near ", 1, "99999999999;");
        right("apple a plain at 0011 0000 ripe 0060 worth 0099;");
        wrong("apple a plain at ", 1, "00011 0 ripe 0 worth 0;");
        right("near 1or 2;");
        right("near 9999and 1;");
        wrong("near ", 1, "99999and 1;");
        wrong("near 1", 1, "x;");
        NameOrchard x = Due.told("apple a plain at 0011 0007 ripe 0060 worth 0099;");
        Due.same("0011", x.apple(0, 1), 11);
        Due.same("0007", x.apple(0, 2), 7);
        Due.same("0060", x.apple(0, 3), 60);
        Due.same("0099", x.apple(0, 4), 99);
    }

    // "the signs ( ) < = + - * ;  All else (a longer WORD or NUMBER, too, at its first sign) is none."
    private static void allElseIsNone() {
        right("near (1)<1;");
        right("near 1=1+1-1*1;");
        for (char sign = 33; sign < 127; sign++) {
            boolean joins = "<=+-*".indexOf(sign) >= 0;
            Due.fault("other a " + sign, sign == ';' ? 0 : 1, 8);
            Due.fault("near 1 " + sign + " 1;", joins ? 0 : 1, sign == ';' ? 9 : 7);
            Due.fault("near " + sign + "1);", sign == '(' ? 0 : 1, "0123456789".indexOf(sign) >= 0 ? 7 : 5);
            wrong("", 1, "" + sign);
        }
        wrong("near 1 ", 1, "abcdefghi");
        wrong("near 1 ", 1, "12345");
    }

    // "SORT: plain, alias, welsh, deaf"
    private static void appleSorts() {
        String[] sorts = {"plain", "alias", "welsh", "deaf"};
        for (int sort = 0; sort < 4; sort++) {
            NameOrchard x = Due.told("apple a " + sorts[sort] + " at 0 0 ripe 0 worth 0;");
            Due.same(sorts[sort], x.apple(0, 0), sort);
        }
        for (String none : new String[] {"odd", "tom", "apple", "not", "plai", "at", "5", ";"}) {
            wrong("apple a ", 1, none + " at 0 0 ripe 0 worth 0;");
        }
    }

    // "at: 0 to 11, then its row, 0 to 11"
    private static void appleWhere() {
        for (int at = 0; at <= 11; at++) {
            NameOrchard x = Due.told("apple a plain at " + at + " " + (11 - at) + " ripe 0 worth 0;");
            Due.same("at", x.apple(0, 1), at);
            Due.same("row", x.apple(0, 2), 11 - at);
        }
        wrong("apple a plain at ", 4, "12 0 ripe 0 worth 0;");
        wrong("apple a plain at 0 ", 4, "12 ripe 0 worth 0;");
        wrong("apple a plain at ", 4, "9999 99 ripe 0 worth 0;");
        wrong("apple a plain at ", 1, "-1 0 ripe 0 worth 0;");
        wrong("apple a plain at 0 ", 1, "ripe 0 worth 0;");
    }

    // "ripe on a day 0 to 60"
    private static void appleRipe() {
        for (int ripe = 0; ripe <= 60; ripe += 60) {
            Due.same("ripe", Due.told("apple a plain at 0 0 ripe " + ripe + " worth 0;").apple(0, 3), ripe);
        }
        wrong("apple a plain at 0 0 ripe ", 4, "61 worth 0;");
        wrong("apple a plain at 0 0 ripe ", 4, "9999 worth 0;");
        wrong("apple a plain at 0 0 ripe ", 1, "worth 0;");
    }

    // "worth 0 to 99"
    private static void appleWorth() {
        for (int worth = 0; worth <= 99; worth += 99) {
            Due.same("worth", Due.told("apple a plain at 0 0 ripe 0 worth " + worth + ";").apple(0, 4), worth);
        }
        wrong("apple a plain at 0 0 ripe 0 worth ", 4, "100;");
        wrong("apple a plain at 0 0 ripe 0 worth ", 4, "9999;");
        wrong("apple a plain at 0 0 ripe 0 worth ", 1, ";");
        wrong("apple a plain at 0 0 ripe 0 worth 0 ", 1, "0;");
    }

    // "its NAME is SOUND so"
    private static void itsNameIsSoundSo() {
        right(TOM + "stranger tom 1;");
        right(TOM + KIM + "bann kim tom;");
        right(TOM + "person joe lane 0 loud 0 not tom;");
        Due.same("a sound each", Due.told(TOM + TIM).count(1), 2);
    }

    // "twin: two APPLES told, not the same"
    private static void twoApplesNotTheSame() {
        right(TOM + TIM + "twin tim tom;");
        wrong(TOM + TIM + "twin tim ", 3, "tim;");
        wrong(TOM + "twin ", 2, "tim tom;" + TIM);
        wrong(TOM + "twin tom ", 2, "tim;" + TIM);
        wrong(ALL + "twin ", 2, "kim tom;");
        wrong(ALL + "twin tom ", 2, "kim;");
        wrong(ALL + "twin tom ", 2, "joe;");
        wrong(ALL + "twin ", 1, ";");
        wrong(ALL + "twin tom", 1, ";");
        wrong(ALL + "twin tom tim ", 1, "tom;");
    }

    // "none of them a twin already"
    private static void noneATwinAlready() {
        String four = TOM + TIM + "apple ann deaf at 1 1 ripe 1 worth 1;apple bob deaf at 1 1 ripe 1 worth 1;twin tom tim;";
        right(four + "twin ann bob;");
        wrong(four + "twin ", 3, "tom ann;");
        wrong(four + "twin ", 3, "tim ann;");
        wrong(four + "twin ann ", 3, "tom;");
        wrong(four + "twin ann ", 3, "tim;");
        wrong(four + "twin ", 3, "tom tim;");
        NameOrchard x = Due.told(four + "twin bob ann;");
        for (int apple = 0; apple < 4; apple++) {
            Due.same("twin of " + apple, x.apple(apple, 8), apple ^ 1);
        }
    }

    // "other: a SOUND that no APPLE has"
    private static void aSoundThatNoAppleHas() {
        wrong(TOM + "other ", 3, "tom;");
        wrong("other tom;apple ", 3, TOM.substring(6));
        right(TOM + "other to;other tomm;");
    }

    // "SOUNDS are numbered as told, APPLES' and others alike"; "apple: .. numbered as told"; "person: .. numbered as told"
    private static void numberedAsTold() {
        NameOrchard x = Due.told("other aaaaaaaa;" + TOM + "person p lane 3 loud 0;other aa;" + TIM + "person q lane 4 loud 0;"
                + "other aaa;");
        int[] due = {8, 2, 3};
        int[] sounds = {0, 2, 4};
        for (int i = 0; i < 3; i++) {
            Due.same("edits of all letters", x.near(1, sounds[i], 0), Math.max(3, due[i]));
            Due.same("common letters", x.near(0, sounds[i], 1), due[i]);
        }
        Due.same("tom", x.apple(0, 6), 1);
        Due.same("tim", x.apple(1, 6), 3);
        Due.same("p calls tom a row off", x.falls(0, 1), 0);
        Due.same("people", x.count(2), 2);
        NameOrchard y = Due.told("person p lane 2 loud 0;person q lane 0 loud 0;" + TOM);
        Due.same("p is the first", y.falls(0, 0), 1);
        Due.same("q is the second", y.falls(1, 0), 0);
    }

    // "lane 0 to 11"
    private static void personLane() {
        right("person p lane 0 loud 0;");
        right("person p lane 11 loud 0;");
        wrong("person p lane ", 4, "12 loud 0;");
        wrong("person p lane ", 4, "9999 loud 0;");
        wrong("person p lane ", 1, "loud 0;");
        wrong("person p ", 1, "loud 0 lane 0;");
    }

    // "loud 0 to 6"
    private static void personLoud() {
        right("person p lane 0 loud 6;");
        wrong("person p lane 0 loud ", 4, "7;");
        wrong("person p lane 0 loud ", 4, "9999 not a;");
        wrong("person p lane 0 loud", 1, ";");
        wrong("person p lane 0 loud ", 1, "not a;");
        wrong("person p lane 0 loud 0", 1, "");
    }

    // "person: .. (a NAME, no SOUND)"
    private static void personNoSound() {
        wrong(TOM + "person ", 3, "tom lane 0 loud 0;");
        wrong(KIM + "person ", 3, "kim lane 0 loud 0;");
        wrong(JOE + "stranger ", 2, "joe 1;");
        wrong(JOE + KIM + "bann kim ", 2, "joe;");
        Due.same("no sound of his", Due.told(JOE).count(1), 0);
    }

    // "MUTE is nothing or   not NAME   (a SOUND told: ..)"
    private static void mute() {
        right(KIM + "person p lane 0 loud 0 not kim;");
        right(TOM + "person p lane 0 loud 0 not tom;");
        wrong("person p lane 0 loud 0 not ", 2, "kim;" + KIM);
        wrong("person p lane 0 loud 0 not ", 2, "p;");
        wrong(JOE + "person p lane 0 loud 0 not ", 2, "joe;");
        wrong(KIM + "person p lane 0 loud 0 not", 1, ";");
        wrong(KIM + "person p lane 0 loud 0 not ", 1, "not kim;");
        wrong(KIM + "person p lane 0 loud 0 not kim ", 1, "kim;");
        wrong(KIM + "person p lane 0 loud 0 not kim ", 1, "not kim;");
        wrong(KIM + "person p lane 0 loud 0 ", 1, "kim;");
    }

    // "stranger: a SOUND told, of ten a day 0 to 10"
    private static void stranger() {
        right(KIM + TOM + "stranger kim 0;stranger tom 10;");
        wrong(KIM + "stranger kim ", 4, "11;");
        wrong(KIM + "stranger kim ", 4, "9999;");
        wrong(KIM + "stranger kim", 1, ";");
        wrong(KIM + "stranger ", 2, "tom 5;" + TOM);
        wrong(KIM + "stranger ", 1, "5 kim;");
        wrong(KIM + "stranger kim 5 ", 1, "5;");
    }

    // "stranger: .. each SOUND once"
    private static void strangerOnce() {
        wrong(KIM + "stranger kim 5;stranger ", 3, "kim 5;");
        wrong(KIM + "stranger kim 5;stranger ", 3, "kim 11;");
        wrong(KIM + TOM + "stranger kim 5;stranger tom 5;stranger ", 3, "kim 0;");
        wrong(KIM + TOM + "stranger kim 5;stranger tom 5;stranger ", 3, "tom 0;");
    }

    // "page: APPLES told, at least one"
    private static void pageOfOne() {
        right(TOM + "page tom;");
        wrong(TOM + "page", 1, ";");
        wrong(TOM + "page", 1, "");
        wrong(TOM + "page ", 1, "page tom;");
        wrong(TOM + "page ", 2, "tim;" + TIM);
        wrong(ALL + "page tom ", 2, "kim;");
        wrong(ALL + "page tom ", 2, "joe;");
        wrong(ALL + "page tom ", 1, "5;");
        wrong(ALL + "page tom", 1, "");
        wrong(ALL + "page tom ", 1, "not tim;");
    }

    // "page: .. each once"
    private static void pageOfEachOnce() {
        right(ALL + "page tom tim;page tim tom;");
        wrong(ALL + "page tom ", 3, "tom;");
        wrong(ALL + "page tom tim ", 3, "tom;");
        wrong(ALL + "page tom tim ", 3, "tim;");
        StringBuilder all = new StringBuilder(Many.apples(10)).append("page");
        for (int i = 9; i >= 0; i--) {
            all.append(' ').append(Many.apple(i));
        }
        right(all + ";");
        wrong(all + " ", 3, Many.apple(9) + ";");
        wrong(all + " ", 3, Many.apple(0) + ";");
        wrong(all + " ", 2, "none;");
    }

    // "bann: two SOUNDS told, not the same"
    private static void bannOfTwo() {
        right(ALL + "bann tom kim;");
        wrong(ALL + "bann tom ", 3, "tom;");
        wrong(ALL + "bann kim ", 3, "kim;");
        wrong(ALL + "bann ", 2, "ann tom;");
        wrong(ALL + "bann tom ", 2, "ann;");
        wrong(ALL + "bann tom", 1, ";");
        wrong(ALL + "bann", 1, ";");
        wrong(ALL + "bann tom kim ", 1, "tim;");
    }

    // "near, value: once each"
    private static void onceEach() {
        right("near 1;value 1;");
        right("value 1;near 1;");
        wrong("near 1;", 3, "near 1;");
        wrong("value 1;", 3, "value 1;");
        wrong("near 1;value 1;", 3, "near");
        wrong("near 1;value 1;", 3, "value;");
        wrong("near 1;" + KIM, 3, "near ?");
    }

    // "call NAME NAME ;   (a PERSON, a SOUND)"
    private static void daysByPersonAndSound() {
        Due.same("days", Due.days(Due.told(ALL), "call joe tom;call joe kim;"), 0);
        wrongDays("call ", 2, "tom tom;");
        wrongDays("call ", 2, "kim joe;");
        wrongDays("call ", 2, "ann tom;");
        wrongDays("call joe ", 2, "joe;");
        wrongDays("call joe ", 2, "ann;");
        wrongDays("call joe", 1, ";");
        wrongDays("call", 1, ";");
        wrongDays("call joe tom", 1, "");
        wrongDays("call joe tom ", 1, "tim;");
        wrongDays("call ", 1, "pick tom;");
        wrongDays("call joe ", 1, "not tom;");
        wrongDays("call joe ", 1, "5;");
    }

    // "pick NAME ;   (an APPLE as told)   day ;"
    private static void daysByAppleAsTold() {
        NameOrchard x = Due.told(ALL);
        Due.yes("tom is kim now", x.christen(0, 2));
        Due.same("as told, not as named now", Due.days(x, "pick tom;"), 0);
        Due.same("kim is none", Due.days(x, "pick kim;"), 2 + 16 * 5);
        wrongDays("pick ", 2, "kim;");
        wrongDays("pick ", 2, "joe;");
        wrongDays("pick ", 2, "ann;");
        wrongDays("pick", 1, ";");
        wrongDays("pick tom ", 1, "tim;");
        wrongDays("day ", 1, "1;");
        wrongDays("day", 1, "");
        wrongDays("", 1, "days;");
        wrongDays("day;", 1, ";");
        wrongDays("", 1, KIM);
    }

    // "A NAME is another WORD than apple, at, ripe, .. not, and, or"
    private static void names() {
        String words = "apple at ripe worth twin other person lane loud stranger page bann near value call pick day "
                + "plain alias welsh deaf not and or";
        for (String word : words.split(" ")) {
            wrong("other ", 1, word + ";");
            wrong("apple ", 1, word + " plain at 0 0 ripe 0 worth 0;");
            wrong("person ", 1, word + " lane 0 loud 0;");
            wrong(ALL + "stranger ", 1, word + " 5;");
            wrong(ALL + "page tom ", 1, word + ";");
            wrongDays("call joe ", 1, word + ";");
            wrongDays("pick ", 1, word + ";");
            right("other " + word.charAt(0) + "x;other " + (word.length() < 8 ? word + "z" : "z") + ";");
        }
        for (String word : "edits start rhyme size base age".split(" ")) {
            right("other " + word + ";stranger " + word + " 5;");
            right("apple " + word + " alias at 0 0 ripe 0 worth 0;page " + word + ";");
            right("person " + word + " lane 0 loud 0;");
        }
        wrong("other ", 1, "5;");
        wrong("other", 1, ";");
    }

    // "no two are alike"
    private static void noTwoAlike() {
        String[] told = {"apple a plain at 0 0 ripe 0 worth 0;", "other a;", "person a lane 0 loud 0;"};
        for (String first : told) {
            for (String second : told) {
                int place = second.indexOf('a', 1);
                wrong(first + second.substring(0, place), 3, second.substring(place));
                right(first + second.substring(0, place) + "aa" + second.substring(place + 1));
            }
        }
        wrong("other zz;other za;other ", 3, "zz;");
        right("other zz;other z;other zzz;other az;other zy;");
    }

    // "apple: 10 at most"; "the words apple of an eleventh"
    private static void tenApples() {
        right(Many.apples(10));
        wrong(Many.apples(10), 5, "apple x plain at 0 0 ripe 0 worth 0;");
        wrong(Many.apples(10), 5, "apple");
        wrong(Many.apples(10), 5, "apple " + Many.apple(0));
        Due.same("ten", Due.told(Many.apples(10)).count(0), 10);
        right(Many.apples(9) + "apple x plain at 0 0 ripe 0 worth 0;");
    }

    // "other: .. 6 at most"; "other of a seventh"
    private static void sixOthers() {
        right(Many.apples(10) + Many.others(6));
        right(Many.others(6) + Many.apples(10));
        wrong(Many.others(6), 5, "other x;");
        wrong(Many.others(6), 5, "other");
        wrong(Many.others(6) + Many.apples(10), 5, "other ?");
        Due.same("sixteen", Due.told(Many.apples(10) + Many.others(6)).count(1), 16);
        Due.same("six", Due.told(Many.others(6)).count(1), 6);
    }

    // "person: 5 at most"; "person of a sixth"
    private static void fivePeople() {
        right(Many.people(5));
        wrong(Many.people(5), 5, "person x lane 0 loud 0;");
        wrong(Many.people(5), 5, "person");
        Due.same("five", Due.told(Many.people(5)).count(2), 5);
    }

    // "stranger: .. 6 at most"; "stranger of a seventh"
    private static void sixStrangers() {
        StringBuilder six = new StringBuilder(Many.others(6)).append(TOM);
        for (int i = 0; i < 6; i++) {
            six.append("stranger ").append(Many.other(i)).append(" 1;");
        }
        right(six.toString());
        wrong(six.toString(), 5, "stranger tom 1;");
        wrong(six.toString(), 5, "stranger");
        Due.same("six", Due.told(six.toString()).count(3), 6);
    }

    // "page: .. 4 at most"; "page .. of a fifth"
    private static void fourPages() {
        String four = TOM + "page tom;".repeat(4);
        right(four);
        wrong(four, 5, "page tom;");
        wrong(four, 5, "page");
        Due.same("four", Due.told(four).count(4), 4);
    }

    // "bann: .. 4 at most"; "bann of a fifth"
    private static void fourBanns() {
        String four = TOM + KIM + "bann tom kim;".repeat(4);
        right(four);
        wrong(four, 5, "bann tom kim;");
        wrong(four, 5, "bann");
        Due.same("four", Due.told(four).count(5), 4);
    }

    // "40 lines at most"; "the first word of a 41st line of DAYS"
    private static void fortyLines() {
        String[] lines = {"day;", "pick tom;", "call joe tom;"};
        for (String line : lines) {
            String forty = line.repeat(40);
            NameOrchard x = Due.told(ALL);
            Due.same("40 times " + line, Due.days(x, forty), 0);
            Due.same("40 lines", x.count(9), 40);
            for (String more : lines) {
                wrongDays(forty, 5, more);
                wrongDays(forty, 5, more.split("[ ;]")[0]);
            }
            wrongDays(forty, 1, "sing;");
            wrongDays(forty, 1, "tom;");
            Due.same("39 and one", Due.days(x, line.repeat(39) + "day;"), 0);
        }
    }

    // "ORCHARD: any number of"; "DAYS: any number of"
    private static void anyNumberOf() {
        NameOrchard x = Due.told(ALL);
        Due.same("an orchard of nothing", x.orchard(), 0);
        for (int what = 0; what < 15; what++) {
            Due.same("nothing: count " + what, x.count(what), 0);
        }
        Due.same("days of nothing", x.days(), 0);
        Due.same("blanks alone", Due.days(x, " \n "), 0);
        right(KIM + KIM.replace("kim", "sam") + TOM + JOE + TIM);
    }

    // "the place (from 0) of a token"
    private static void placeFromZero() {
        wrong("", 1, "tom");
        wrong(" ", 1, "tom");
        wrong("\n\n  ", 1, "?");
        wrong("other kim;\n ", 1, "kim");
        wrong("other  ", 1, "at;");
        NameOrchard x = new NameOrchard();
        x.feed('#', ' ', 0x0900000000000000L | 'x');
        Due.same("signs left out have no place", x.orchard(), 1);
        x.feed(0x0120, 0x02ff, '#');
        Due.same("signs left out have no place", x.orchard(), 1 + 16);
    }

    // "the end being one at the text's length"
    private static void theEnd() {
        for (int length = 0; length < TOM.length(); length++) {
            // At each blank what is cut there wants a token more: the end.
            if (TOM.charAt(length) == ' ' || TOM.charAt(length) == ';') {
                wrong(TOM.substring(0, length), 1, "");
                wrong(TOM.substring(0, length) + "  ", 1, "");
                wrong(TOM.substring(0, length) + "\n", 1, "");
            }
        }
        wrong("near 1+", 1, "");
        wrong("near (1", 1, "");
        wrong("near not", 1, "");
        wrongDays("call joe ", 1, "");
        wrong(blanks(995) + "other", 1, "");
        wrong(blanks(994) + "other ", 1, "");
    }

    // "of the first token from the left that is wrong"
    private static void theFirstFromTheLeft() {
        wrong("apple a plain at ", 4, "12 12 ripe 61 worth 100");
        wrong("apple a ", 1, "odd at 12 12;");
        wrong(TOM + "apple ", 3, "tom odd at 12 12;");
        wrong("twin ", 2, "a a;");
        wrong("bann ", 2, "a a;");
        wrong(TOM + "page ", 2, "a tom tom;");
        wrong("stranger ", 2, "a 11;");
        wrong("person p lane ", 4, "12 loud 7 not a;");
        wrong("near 1 ", 1, "1 ((((((");
        wrong("", 1, "##");
    }

    // "that is wrong the least: 1 it is none, or can't stand there; .. 5 one too many"
    private static void theLeast() {
        wrong(TOM + "twin tom ", 1, "twin");
        wrong("near (((((", 1, "base");
        wrong("near (((((", 1, ")");
        wrong("near (((((", 1, "12345");
        wrong("near (((((", 5, "edits");
        wrong("value (((((", 1, "edits");
        wrong(Many.apples(10), 1, "apples a");
        wrong(Many.apples(10), 1, "?");
        wrong(Many.others(6), 1, "?");
        wrongDays("day;".repeat(40), 1, "apple");
        wrong(TOM + "stranger tom 5;stranger ", 2, "ann 5;");
        wrong(TOM + "stranger tom 5;stranger ", 3, "tom 5;");
        wrong(TOM + TIM + "twin tom tim;twin ", 2, "ann tom;");
    }

    // "4 a NUMBER that is not as told"
    private static void aboveAllNumbers() {
        String[] ahead = {"apple a plain at ", "apple a plain at 1 ", "apple a plain at 1 1 ripe ",
            "apple a plain at 1 1 ripe 1 worth ", "person a lane ", "person a lane 1 loud ", "other a;stranger a "};
        int[] most = {11, 11, 60, 99, 11, 6, 10};
        String[] rest = {" 1 ripe 1 worth 1;", " ripe 1 worth 1;", " worth 1;", ";", " loud 1;", ";", ";"};
        for (int i = 0; i < ahead.length; i++) {
            for (int number = 0; number <= 101; number++) {
                Due.fault(ahead[i] + number + rest[i], number <= most[i] ? 0 : 4, ahead[i].length());
            }
            wrong(ahead[i], 4, "9999" + rest[i]);
            wrong(ahead[i], 1, "a" + rest[i]);
            wrong(ahead[i], 1, "(1)" + rest[i]);
            wrong(ahead[i], 1, "99999" + rest[i]);
        }
    }

    // "0, or its FAULT (all stays then)"
    private static void allStays() {
        String[] orchards = {"other", "apple a plain at 0 0 ripe 0 worth 0;other a;", "near 0;value 0;twin", "?",
            "person a lane 0 loud 0;stranger a 1;", "value 5;page"};
        String[] days = {"day;day;day", "call joe ann;", "day;".repeat(41), "pick kim;", "?"};
        for (int i = 0; i < orchards.length + days.length; i++) {
            NameOrchard x = busy();
            String before = Due.state(x);
            String fault = i < orchards.length ? orchards[i] : days[i - orchards.length];
            Due.yes("a fault: " + fault, (i < orchards.length ? Due.orchard(x, fault) : Due.days(x, fault)) != 0);
            Due.text("all stays behind " + fault, Due.state(x), before);
            Due.yes("what can be undone", x.undo());
            Due.yes("the mark", x.mark(2, true));
            Due.no("another one", x.mark(1, true));
        }
    }

    private static NameOrchard busy() {
        NameOrchard x = Due.told(ALL + "near edits<2;");
        x.mark(2, false);
        x.call(0, 0);
        x.pass(1);
        x.lies(0, true);
        x.tell(0, 1, true);
        Due.days(x, "day;pick tim;");
        return x;
    }

    // "Without a FAULT an ORCHARD is the ORCHARD from then on: day 0, all hang, each with its SOUND, nothing loose, no
    // DAYS, nothing LIES, nothing TOLD, nothing can be undone, no MARK is there."
    private static void fromThenOn() {
        String text = ALL + "apple llew welsh at 0 2 ripe 0 worth 30;";
        NameOrchard x = Due.told(text);
        String fresh = Due.state(x);
        x.call(0, 3);
        x.christen(0, 2);
        x.pick(1);
        x.pass(1);
        x.pick(2);
        x.pass(1);
        x.pick(0);
        x.lies(0, true);
        x.lies(1, false);
        x.tell(0, 1, true);
        Due.days(x, "day;pick tim;");
        for (int mark = 0; mark < 4; mark++) {
            x.mark(mark, false);
        }
        Due.same("the same orchard", Due.orchard(x, text), 0);
        Due.text("as at first", Due.state(x), fresh);
        Due.no("nothing can be undone", x.undo());
        for (int mark = 0; mark < 4; mark++) {
            Due.no("no mark is there", x.mark(mark, true));
        }
        x.call(0, 3);
        Due.same("loose", x.apple(2, 7), 1);
        Due.same("once more", Due.orchard(x, text), 0);
        Due.same("nothing is loose", x.apple(2, 7), 0);
        Due.same("not by one call", x.falls(0, 3), 0);
        x.lies(0, true);
        Due.orchard(x, text);
        x.lies(2, false);
        Due.same("that tom lay is forgotten: all four calls", x.called(0), 4);
    }

    // The same sentence: what was told ahead of it is no more, however often.
    private static void threeOrchards() {
        String many = Many.apples(4) + "twin aa ab;" + Many.others(4) + Many.people(4) + "stranger aa 5;stranger oa 5;"
                + "page aa;page ab;bann aa ab;bann oa ob;near 1;value 7;";
        NameOrchard x = new NameOrchard();
        for (int round = 0; round < 3; round++) {
            Due.same("many", Due.orchard(x, many), 0);
            int[] counts = {4, 8, 4, 2, 2, 2};
            for (int what = 0; what < 6; what++) {
                Due.same("many: count " + what, x.count(what), counts[what]);
            }
            Due.same("all is near", x.near(0, 7, 3), 1);
            Due.same("all is worth seven", x.apple(0, 9), 7);
            Due.same("a fault", Due.orchard(x, Many.others(3) + "other oa;"), 3 + 16 * (Many.others(3).length() + 6));
            // Twice, since what was read two orchards ago must be forgotten as well.
            Due.same("few", Due.orchard(x, TOM + "person oa lane 1 loud 1;" + TIM), 0);
            Due.same("few", Due.orchard(x, TOM + "person oa lane 1 loud 1;" + TIM), 0);
            int[] few = {2, 2, 1, 0, 0, 0};
            for (int what = 0; what < 6; what++) {
                Due.same("few: count " + what, x.count(what), few[what]);
            }
            Due.same("no law of nearness", x.near(0, 1, 3), 0);
            Due.same("itself is near", x.near(1, 1, 3), 1);
            Due.same("no law of value: green", x.apple(0, 9), 0);
            Due.same("no law of value: ripe", x.apple(1, 9), 6);
            Due.same("no twin", x.apple(0, 8), -1);
            Due.same("no page", x.hide(0, 0), -1);
            Due.same("no banns", x.banns(0, 0, 0), -1);
            Due.same("no strangers", x.loss(30), 0);
            Due.same("tim by oa", x.crop(1, 0), 6);
            Due.same("tim by oa, the second sound", x.crop(1, 1), 1);
            Due.same("by two calls", x.fetch(), 2);
        }
    }

    // "its FAULT (all stays then)": what was read ahead of the fault is nowhere in the next orchard.
    private static void afterAFault() {
        NameOrchard x = new NameOrchard();
        String most = Many.apples(10) + Many.others(6) + Many.people(5);
        Due.same("a fault at last", Due.orchard(x, most + "?"), 1 + 16 * most.length());
        Due.same("no apples", x.count(0), 0);
        Due.same("the same names are free", Due.orchard(x, most), 0);
        Due.same("a fault in a law", Due.orchard(x, "near 1+;"), 1 + 16 * 7);
        Due.same("a fault behind the laws", Due.orchard(x, "near 1;value 1;;"), 1 + 16 * 15);
        Due.same("laws once each", Due.orchard(x, "near 0;value 2;" + TIM), 0);
        Due.same("the law", x.near(0, 0, 3), 0);
        Due.same("the value", x.apple(0, 9), 2);
        Due.same("a fault in a page", Due.orchard(x, TOM + "page tom"), 1 + 16 * 47);
        Due.same("no page of that", Due.orchard(x, TOM + TIM + "page tim;page tim;page tim;page tim;"), 0);
        Due.same("four", x.count(4), 4);
    }

    // "DAYS are the DAYS."
    private static void daysAreTheDays() {
        NameOrchard x = Due.told(ALL);
        Due.same("three", Due.days(x, "pick tim;day;day;"), 0);
        Due.same("lines", x.count(9), 3);
        Due.same("had", x.judged(2), 6);
        Due.same("one", Due.days(x, "day;"), 0);
        Due.same("in place of the others", x.count(9), 1);
        Due.same("had", x.judged(2), 0);
        Due.same("a fault", Due.days(x, "day;day;?"), 1 + 16 * 8);
        Due.same("all stays", x.count(9), 1);
        Due.same("none", x.days(), 0);
        Due.same("no lines", x.count(9), 0);
    }

    // "At first: nothing."
    private static void nothingAtFirst() {
        NameOrchard x = new NameOrchard();
        Due.text("as an orchard of nothing", Due.state(x), Due.state(Due.told("")));
        Due.same("no person to call", Due.days(x, "call a b;"), 2 + 16 * 5);
        Due.same("no apple to pick", Due.days(x, "pick a;"), 2 + 16 * 5);
        Due.same("days", Due.days(x, "day;day;"), 0);
        Due.same("two", x.count(9), 2);
        Due.yes("a mark", x.mark(0, false));
        Due.same("a day", x.pass(1), 1);
        Due.yes("back", x.mark(0, true));
        Due.same("day 0", x.count(7), 0);
    }
}
