/**
 * The boundary cases of what is sought: crops, fetching, who was called, laws, losses and names (promises 15 to 22): a
 * method for each sentence of the document, which stands above it.
 */
public final class EdgeSeekTest {
    private static final int[] BAD = {-1, -2, 31, 32, 33, 64, Integer.MAX_VALUE, Integer.MIN_VALUE};
    private static final String P = "person p lane 0 loud 0;";

    private EdgeSeekTest() {
    }

    public static void main(String[] args) {
        crops();
        fetches();
        calls();
        nearness();
        losses();
        names();
        Due.end();
    }

    private static void crops() {
        noughtToThree();
        noneOrOneCallADay();
        asTheDayBegins();
        twinsAndLooseOnes();
        heardAlike();
        noneAheadOfAll();
        byPeopleThenSounds();
        cropOfNothing();
        cropAnew();
        cropChangesNothing();
    }

    private static void fetches() {
        fourAtMost();
        nothingToFetch();
        notByFour();
        hangsAndIsNotDeaf();
        oneBehindAnother();
        everySetThatHangs();
        fetchAnew();
    }

    private static void calls() {
        liesOrDoesNot();
        laterTold();
        asAllHangsNow();
        justWhatIsTold();
        noCallFits();
        mostEvenly();
        othersOfCalled();
    }

    private static void nearness() {
        twelveAtMost();
        orToItself();
        edgesOfTheLaws();
        leastAGreatestB();
        noLaw();
        othersOfLaws();
    }

    private static void losses() {
        lossDays();
        cutAndCut();
        asToldDayByDay();
        neverAndForSure();
        hangsAndHears();
        soundsOfNow();
    }

    private static void names() {
        bestOfThoseFree();
        ofEqualOnesTheFirst();
        noBest();
    }

    private static String plain(String name, int row, int ripe, int worth) {
        return "apple " + name + " plain at 0 " + row + " ripe " + ripe + " worth " + worth + ";";
    }

    private static void crop(String what, NameOrchard x, int days, int had, int first) {
        Due.same(what + ": crop " + days + " 0", x.crop(days, 0), had);
        Due.same(what + ": crop " + days + " 1", x.crop(days, 1), first);
    }

    // "CROP by so many days (0 to 3)"; "-2: others"
    private static void noughtToThree() {
        NameOrchard x = Due.told(plain("a", 0, 0, 1) + plain("b", 0, 0, 2) + plain("c", 0, 0, 4) + plain("d", 0, 0, 8) + P);
        crop("four", x, 0, 0, -1);
        crop("four", x, 1, 8, 3);
        crop("four", x, 2, 12, 2);
        crop("four", x, 3, 14, 1);
        for (int bad : BAD) {
            Due.same("crop " + bad + " 0", x.crop(bad, 0), -2);
            Due.same("crop " + bad + " 1", x.crop(bad, 1), -2);
            Due.same("crop 1 " + bad, x.crop(1, bad), -2);
        }
        Due.same("crop 4 0", x.crop(4, 0), -2);
        Due.same("crop 4 1", x.crop(4, 1), -2);
        Due.same("crop 0 2", x.crop(0, 2), -2);
        Due.same("crop 3 2", x.crop(3, 2), -2);
    }

    // "on each one CALL, or none"
    private static void noneOrOneCallADay() {
        String all = plain("a", 0, 2, 50) + plain("b", 0, 0, 3) + P + "near 1;";
        NameOrchard x = Due.told(all);
        crop("a call fells both", x, 1, 3, 0);
        crop("no call until a is ripe", x, 3, 53, -1);
        crop("it pays to wait not yet", x, 2, 3, -1);
    }

    // "as the day begins, then the next one": values of today, tomorrow and the day behind it, no later one.
    private static void asTheDayBegins() {
        for (int ripe = 0; ripe < 5; ripe++) {
            NameOrchard x = Due.told(plain("a", 0, ripe, 9) + P);
            for (int days = 1; days <= 3; days++) {
                crop("ripe on " + ripe, x, days, ripe < days ? 9 : 0, ripe == 0 && days == 1 ? 0 : -1);
            }
            x.pass(1);
            crop("a day later, ripe on " + ripe, x, 1, ripe < 2 ? 9 : 0, ripe < 2 ? 0 : -1);
        }
        NameOrchard x = Due.told(plain("a", 0, 2, 99) + P + "value 999-age*age*300;");
        crop("299 on day 0 is less than none", x, 1, 0, -1);
        crop("699 on day 1", x, 2, 699, -1);
        crop("999 on day 2", x, 3, 999, -1);
        x.pass(2);
        crop("999 today", x, 3, 999, 0);
        x.pass(2);
        crop("nothing any more", x, 3, 0, -1);
    }

    // "(twins, what is loose, as told)"
    private static void twinsAndLooseOnes() {
        NameOrchard x = Due.told("apple w welsh at 0 0 ripe 0 worth 5;apple d deaf at 0 9 ripe 1 worth 9;twin d w;" + P);
        crop("welsh", x, 1, 0, -1);
        crop("its deaf twin, too", x, 2, 14, 0);
        crop("two days are enough", x, 3, 14, -1);
        x.call(0, 0);
        crop("it is loose now", x, 1, 5, 0);
        crop("tomorrow the twin is ripe", x, 2, 14, -1);
        NameOrchard y = Due.told(plain("e", 2, 0, 7) + plain("f", 0, 0, 1) + "person p lane 0 loud 1;near 1;");
        crop("an echo is not enough", y, 1, 1, 0);
        crop("two are", y, 2, 8, 0);
        y.call(0, 0);
        crop("loose already", y, 1, 7, 0);
        crop("f is down", y, 3, 7, -1);
        y.undo();
        crop("and hangs again", y, 1, 1, 0);
    }

    // The same: calls that reach the same apples, one by an echo and one wholly, are not the same.
    private static void heardAlike() {
        String a = plain("a", 2, 0, 7);
        crop("an echo first", Due.told(a + "person p lane 0 loud 1;person q lane 0 loud 2;"), 1, 7, 16);
        crop("an echo behind", Due.told(a + "person q lane 0 loud 2;person p lane 0 loud 1;"), 1, 7, 0);
        crop("alike: the first", Due.told(a + "person q lane 0 loud 2;person p lane 1 loud 1;"), 1, 7, 0);
        crop("an echo first, of two days", Due.told(a + "person p lane 0 loud 1;person q lane 0 loud 2;"), 2, 7, -1);
        Due.same("fetch by the second", Due.told(a + "person p lane 0 loud 1;person q lane 0 loud 2;").fetch(), 1);
    }

    // "of equal ones the first first CALL (none ahead of all ..)"
    private static void noneAheadOfAll() {
        String ab = plain("a", 0, 0, 5) + plain("b", 0, 0, 5) + P;
        crop("one", Due.told(ab), 1, 5, 0);
        crop("two", Due.told(ab), 2, 10, 0);
        crop("none at first", Due.told(ab), 3, 10, -1);
        crop("nothing worth", Due.told(plain("a", 0, 9, 5) + P), 3, 0, -1);
        crop("nothing worth at all", Due.told(plain("a", 0, 0, 0) + P), 1, 0, -1);
    }

    // "(.. then by PEOPLE, SOUNDS)"
    private static void byPeopleThenSounds() {
        String ab = plain("a", 3, 0, 5) + plain("b", 0, 0, 5);
        crop("the second sound by the first one", Due.told(ab + P + "person q lane 3 loud 0;"), 1, 5, 1);
        crop("the first sound by the first one", Due.told(ab + "person q lane 3 loud 0;" + P), 1, 5, 0);
        crop("of one the first sound", Due.told(ab + "person q lane 3 loud 3;"), 1, 5, 0);
        crop("by two of them", Due.told(ab + P + "person q lane 3 loud 0;"), 2, 10, 1);
        String last = Many.others(6) + Many.people(4) + plain("z", 9, 0, 5);
        crop("the fifth the seventh", Due.told(last + "person q lane 9 loud 0;"), 1, 5, 4 * 16 + 6);
        StringBuilder s = new StringBuilder(Many.others(6));
        for (int i = 0; i < 9; i++) {
            s.append(plain(Many.apple(i), 0, 9, 5));
        }
        NameOrchard x = Due.told(s + plain("z", 9, 0, 5) + Many.people(4) + "person q lane 9 loud 0;");
        crop("the fifth the sixteenth", x, 1, 5, 4 * 16 + 15);
        crop("of two days: none at first", x, 2, 5, -1);
    }

    private static void cropOfNothing() {
        crop("nothing", new NameOrchard(), 3, 0, -1);
        crop("nobody", Due.told(plain("a", 0, 0, 5)), 3, 0, -1);
        crop("nothing to call", Due.told(P), 3, 0, -1);
        crop("he can't say it", Due.told(plain("a", 0, 0, 5) + "person p lane 0 loud 0 not a;"), 3, 0, -1);
        crop("out of hearing", Due.told(plain("a", 1, 0, 5) + P), 3, 0, -1);
        crop("a deaf one", Due.told("apple a deaf at 0 0 ripe 0 worth 5;" + P), 3, 0, -1);
    }

    // Asked anew all is looked at anew: what hangs, what it is named, who there is.
    private static void cropAnew() {
        NameOrchard x = Due.told(plain("a", 0, 2, 5) + plain("b", 0, 0, 2) + "other c;" + P + "person q lane 0 loud 0 not c;");
        crop("at first", x, 3, 7, -1);
        crop("b", x, 1, 2, 1);
        x.christen(0, 2);
        x.pass(2);
        crop("a is c", x, 1, 5, 2);
        crop("then b", x, 2, 7, 1);
        x.pick(1);
        crop("a alone", x, 2, 5, -1);
        Due.orchard(x, plain("a", 4, 0, 5) + "person q lane 4 loud 0;" + P);
        crop("another orchard", x, 1, 5, 0);
        Due.orchard(x, plain("a", 4, 0, 5) + P + "person q lane 4 loud 0;");
        crop("the other way round", x, 1, 5, 16);
        Due.orchard(x, plain("a", 4, 0, 5));
        crop("nobody", x, 3, 0, -1);
    }

    private static void cropChangesNothing() {
        NameOrchard x = Due.told(plain("a", 0, 0, 5) + plain("b", 0, 1, 5) + "person p lane 0 loud 1;near 1;");
        x.call(0, 0);
        x.undo();
        String before = Due.state(x);
        x.crop(3, 0);
        x.crop(4, 0);
        x.crop(3, 7);
        x.fetch();
        Due.text("all stays", Due.state(x), before);
    }

    private static void fetch(String what, String text, int due) {
        Due.same("fetch: " + what, Due.told(text).fetch(), due);
    }

    /** So many apples, each to be called for itself. */
    private static String singles(String sort, int many) {
        return Many.apples(many).replace("plain", sort);
    }

    // "how many; 4 at most"
    private static void fourAtMost() {
        for (int many = 0; many <= 10; many++) {
            fetch(many + " plain ones", singles("plain", many) + P, many <= 4 ? many : -1);
            fetch(many + " aliases", singles("alias", many) + P, many <= 4 ? many : -1);
            fetch(many + " welsh ones", singles("welsh", many) + P, many <= 2 ? 2 * many : -1);
            fetch(many + " deaf ones", singles("deaf", many) + P, 0);
            fetch(many + " near ones", singles("plain", many) + P + "near 1;", many > 0 ? 1 : 0);
            fetch(many + " near welsh ones", singles("welsh", many) + P + "near 1;", many > 0 ? 2 : 0);
        }
    }

    // "by which all FALLS that hangs": nothing, by no call.
    private static void nothingToFetch() {
        Due.same("at first", new NameOrchard().fetch(), 0);
        fetch("nobody and nothing", "other a;", 0);
        fetch("a person and nothing", P, 0);
        NameOrchard x = Due.told(plain("a", 0, 0, 1) + P);
        x.call(0, 0);
        Due.same("all is down", x.fetch(), 0);
        x.undo();
        Due.same("and hangs again", x.fetch(), 1);
        x.pick(0);
        Due.same("picked", x.fetch(), 0);
    }

    // "NONE: not by 4"
    private static void notByFour() {
        fetch("nobody", plain("a", 0, 0, 1), -1);
        fetch("he can't say it", plain("a", 0, 0, 1) + "person p lane 0 loud 0 not a;", -1);
        fetch("out of hearing", plain("a", 1, 0, 1) + P, -1);
        fetch("one out of hearing", plain("a", 1, 0, 1) + plain("b", 0, 0, 1) + P, -1);
        fetch("just an echo: twice", plain("a", 2, 0, 1) + "person p lane 0 loud 1;", 2);
        fetch("beyond an echo", plain("a", 3, 0, 1) + "person p lane 0 loud 1;", -1);
        fetch("not near", plain("a", 0, 0, 1) + P + "near 0;", -1);
        fetch("five", singles("plain", 5) + P, -1);
    }

    // "all .. that hangs and is not deaf"
    private static void hangsAndIsNotDeaf() {
        NameOrchard x = Due.told(singles("plain", 5) + P + "apple d deaf at 0 0 ripe 0 worth 1;");
        Due.same("five", x.fetch(), -1);
        x.pick(4);
        Due.same("four", x.fetch(), 4);
        x.pass(1);
        x.pick(5);
        Due.same("four, no deaf one", x.fetch(), 4);
        fetch("a deaf twin hangs on", "apple d deaf at 0 9 ripe 0 worth 1;" + plain("a", 0, 0, 1)
                + "apple e deaf at 0 0 ripe 0 worth 1;twin e a;" + P, 1);
    }

    // "one behind another now": what is made loose by one falls by a later one; green or not.
    private static void oneBehindAnother() {
        fetch("two echoes", plain("a", 2, 60, 1) + "person p lane 0 loud 1;", 2);
        fetch("an echo, then wholly", "apple a welsh at 0 2 ripe 0 worth 1;" + plain("b", 0, 0, 1)
                + "person p lane 0 loud 1;near 1;", 2);
        fetch("twins", singles("plain", 8) + "twin aa ab;twin ac ad;twin ae af;twin ag ah;" + P, 4);
        fetch("welsh twins", singles("welsh", 4) + "twin aa ab;twin ac ad;" + P, 4);
        fetch("welsh twins and one", singles("welsh", 4) + "twin aa ab;twin ac ad;" + plain("z", 0, 0, 1) + P, -1);
        NameOrchard x = Due.told(singles("welsh", 3) + P);
        Due.same("six", x.fetch(), -1);
        x.call(0, 0);
        Due.same("five", x.fetch(), -1);
        x.call(0, 1);
        Due.same("four", x.fetch(), 4);
        x.call(0, 2);
        Due.same("three", x.fetch(), 3);
    }

    // "all .. that hangs and is not deaf", whichever of the ten these are.
    private static void everySetThatHangs() {
        for (int mask = 0; mask < 1024; mask++) {
            StringBuilder s = new StringBuilder("near 1;").append(P);
            for (int i = 0; i < 10; i++) {
                s.append("apple ").append(Many.apple(i)).append((mask >> i & 1) != 0 ? " welsh" : " deaf")
                        .append(" at 0 0 ripe 0 worth 1;");
            }
            Due.same("welsh ones of mask " + mask, Due.told(s.toString()).fetch(), mask == 0 ? 0 : 2);
            NameOrchard x = Due.told(s.toString().replace("welsh", "plain"));
            Due.same("plain ones of mask " + mask, x.fetch(), mask == 0 ? 0 : 1);
        }
    }

    private static void fetchAnew() {
        NameOrchard x = Due.told("apple a welsh at 0 0 ripe 9 worth 1;other b;person p lane 0 loud 0 not a;");
        Due.same("he can't say a", x.fetch(), -1);
        x.christen(0, 1);
        Due.same("it is b", x.fetch(), 2);
        x.undo();
        Due.same("it is a", x.fetch(), -1);
        Due.orchard(x, plain("a", 0, 0, 1) + "person q lane 3 loud 0;");
        Due.same("nobody near", x.fetch(), -1);
        Due.orchard(x, plain("a", 3, 0, 1) + "person q lane 3 loud 0;");
        Due.same("one near", x.fetch(), 1);
        Due.orchard(x, plain("a", 3, 0, 1));
        Due.same("nobody", x.fetch(), -1);
    }

    // "LIES: true; false: others."
    private static void liesOrDoesNot() {
        NameOrchard x = Due.told(singles("plain", 10));
        for (int bad : BAD) {
            Due.no("lies " + bad, x.lies(bad, true));
            Due.no("lies not " + bad, x.lies(bad, false));
        }
        Due.no("an eleventh", x.lies(10, true));
        Due.same("nothing told", x.count(10), 0);
        for (int apple = 0; apple < 10; apple++) {
            Due.yes("lies or not", x.lies(apple, apple % 2 == 0));
            Due.same("told", x.count(10), apple + 1);
        }
        Due.no("at first", new NameOrchard().lies(0, true));
        x.pick(3);
        Due.yes("one that hangs no more", x.lies(3, true));
        Due.same("ten", x.count(10), 10);
    }

    // "(later told in place of what was told of it)"
    private static void laterTold() {
        NameOrchard x = Due.told(plain("a", 0, 0, 1) + plain("b", 0, 0, 1) + P);
        for (int i = 0; i < 5; i++) {
            x.lies(0, true);
            Due.same("by a", x.called(1), 1);
            x.lies(0, true);
            Due.same("by a still", x.called(1), 1);
            x.lies(0, false);
            Due.same("by b", x.called(1), 2);
            Due.same("told of one", x.count(10), 1);
        }
    }

    // "CALLS by which, as all hangs now, .. FALLS"
    private static void asAllHangsNow() {
        NameOrchard x = Due.told("apple a welsh at 0 0 ripe 9 worth 1;" + plain("b", 0, 0, 1) + "other c;" + P);
        x.lies(0, true);
        Due.same("none by which a falls", x.called(0), 0);
        x.call(0, 0);
        Due.same("it is loose now", x.called(1), 1);
        x.christen(0, 2);
        Due.same("and c", x.called(1), 4);
        x.pick(0);
        Due.same("it hangs no more", x.called(0), 0);
        x.undo();
        Due.same("and hangs again", x.called(0), 1);
        x.lies(0, false);
        x.lies(1, true);
        x.pass(1);
        Due.same("b", x.called(1), 2);
        x.call(0, 1);
        Due.same("b is down", x.called(0), 0);
    }

    // "just what is told so FALLS of what was told to lie or not"
    private static void justWhatIsTold() {
        NameOrchard x = Due.told(plain("a", 0, 0, 1) + plain("b", 0, 0, 1) + plain("c", 0, 0, 1) + "other ab;other bc;"
                + P + "person q lane 0 loud 0 not c;near edits<2;");
        Due.same("nothing told: all", x.called(0), 5 + 3);
        // a: a b c; b: a b c; c: a b c; ab: a b; bc: b c (a letter is one edit from another).
        x.lies(0, true);
        Due.same("a lies", x.called(1), 15);
        x.lies(2, false);
        Due.same("c does not", x.called(1), 8);
        Due.same("by both", x.called(2), 3);
        Due.same("two", x.called(0), 2);
        x.lies(1, false);
        Due.same("nor b", x.called(0), 0);
        x.lies(0, false);
        Due.same("none of them", x.called(0), 0);
        x.lies(1, true);
        x.lies(2, true);
        Due.same("b and c alone", x.called(1), 16);
        Due.same("by p", x.called(2), 1);
        NameOrchard y = Due.told(plain("a", 4, 0, 1) + P + "person q lane 4 loud 0;" + "person r lane 0 loud 0;");
        y.lies(0, true);
        Due.same("by q alone", y.called(2), 2);
        Due.same("one call", y.called(0), 1);
    }

    // "NONE: others, none (but 0)"
    private static void noCallFits() {
        NameOrchard[] none = {new NameOrchard(), Due.told(plain("a", 0, 0, 1)), Due.told(P),
            Due.told(plain("a", 0, 0, 1) + "person p lane 0 loud 0 not a;"), Due.told(plain("a", 1, 0, 1) + P)};
        none[4].lies(0, true);
        for (NameOrchard x : none) {
            Due.same("how many", x.called(0), 0);
            for (int what = 1; what < 4; what++) {
                Due.same("called " + what, x.called(what), -1);
            }
        }
    }

    // "the APPLE, of those that hang, of which nothing is told, that parts them most evenly (.. of equal ones the
    // first)"; "NONE: none parts them"
    private static void mostEvenly() {
        String three = plain("a", 0, 0, 1) + plain("b", 0, 0, 1) + plain("c", 0, 0, 1);
        NameOrchard x = Due.told(three + "other ab;other bc;" + P + "near edits<2;");
        Due.same("a 4 of 5, b 5 of 5, c 4 of 5: the first", x.called(3), 0);
        x.lies(0, true);
        Due.same("c 3 of 4", x.called(3), 2);
        x.lies(2, true);
        Due.same("b falls by all: none parts them", x.called(3), -1);
        Due.same("though three fit", x.called(0), 3);
        NameOrchard y = Due.told(three + "other ab;other bc;" + P);
        Due.same("each 1 of 5: the first", y.called(3), 0);
        y.pick(0);
        Due.same("of those that hang", y.called(3), 1);
        y.lies(1, false);
        Due.same("of which nothing is told", y.called(3), 2);
        y.lies(2, false);
        Due.same("none is left", y.called(3), -1);
        NameOrchard z = Due.told(plain("a", 5, 0, 1) + plain("b", 0, 0, 1) + plain("c", 0, 0, 1) + "other ab;other bb;"
                + "person p lane 0 loud 0;near edits<2 and 0<start;");
        // a is out of hearing; b: b, bb; c: c.
        Due.same("b 2 of 5, c 1 of 5", z.called(3), 1);
        z.lies(1, true);
        Due.same("two are left", z.called(0), 2);
        Due.same("c falls by none of them", z.called(3), -1);
        NameOrchard one = Due.told(plain("a", 0, 0, 1) + P);
        Due.same("by the only one it falls", one.called(3), -1);
        NameOrchard last = Due.told(Many.apples(9).replace("0 0 ripe", "0 9 ripe") + plain("z", 0, 0, 1) + P);
        Due.same("the tenth", last.called(3), 9);
    }

    private static void othersOfCalled() {
        NameOrchard x = Due.told(plain("a", 0, 0, 1) + P);
        for (int bad : BAD) {
            Due.same("called " + bad, x.called(bad), -1);
        }
        Due.same("called 4", x.called(4), -1);
        NameOrchard y = Due.told(Many.apples(10) + Many.others(6) + Many.people(5));
        Due.same("all calls", y.called(0), 80);
        Due.same("all sounds", y.called(1), 65535);
        Due.same("all people", y.called(2), 31);
    }

    // "(12 at most)"; "false: others, 12 are TOLD"
    private static void twelveAtMost() {
        NameOrchard x = Due.told(Many.apples(10) + Many.others(6));
        for (int bad : BAD) {
            Due.no("tell " + bad + " 0", x.tell(bad, 0, true));
            Due.no("tell 0 " + bad, x.tell(0, bad, false));
        }
        Due.no("no sound 16", x.tell(16, 0, true));
        Due.no("no sound 16", x.tell(0, 16, true));
        Due.same("nothing told", x.count(11), 0);
        for (int i = 0; i < 12; i++) {
            Due.yes("one", x.tell(15 - i, i, true));
            Due.same("told", x.count(11), i + 1);
        }
        int laws = x.laws(0);
        Due.no("a thirteenth", x.tell(0, 0, false));
        Due.same("twelve", x.count(11), 12);
        Due.same("the same laws", x.laws(0), laws);
        Due.no("at first", new NameOrchard().tell(0, 0, true));
    }

    // "another one (or to itself)"
    private static void orToItself() {
        NameOrchard x = Due.told("other a;other b;");
        Due.yes("near to itself", x.tell(0, 0, true));
        Due.same("all laws", x.laws(0), 40);
        Due.yes("not near to itself", x.tell(1, 1, false));
        Due.same("none", x.laws(0), 0);
    }

    private static void laws(String called, String sound, boolean near, int many, int a, int b) {
        NameOrchard x = Due.told("other " + called + ";other " + sound + ";");
        x.tell(0, 1, near);
        String what = called + " " + sound + " " + near;
        Due.same(what + ": laws 0", x.laws(0), many);
        Due.same(what + ": laws 1", x.laws(1), a);
        Due.same(what + ": laws 2", x.laws(2), b);
    }

    // "edits are no more than A, or rhyme is no less than B" (A 0 to 4, B 1 to 8)
    private static void edgesOfTheLaws() {
        laws("abcdefgh", "zbcdefgh", true, 4 * 8 + 7, 0, 7);
        laws("abcdefgh", "zbcdefgh", false, 1, 0, 8);
        laws("abcd", "wxyz", true, 8, 4, 8);
        laws("abcd", "wxyz", false, 4 * 8, 0, 8);
        laws("abcde", "vwxyz", true, 0, -1, -1);
        laws("abcde", "vwxyz", false, 40, 0, 8);
        laws("abcdef", "uvwxyf", true, 5, 0, 1);
        laws("abcdef", "uvwxyf", false, 5 * 7, 0, 8);
        laws("abcd", "wxyd", true, 2 * 8 + 3, 0, 1);
        laws("abcd", "wxyd", false, 3 * 7, 0, 8);
    }

    // "how many; the least A, and by this the greatest B"
    private static void leastAGreatestB() {
        NameOrchard x = Due.told("other abcdefgh;other zbcdefgh;other abcd;other wxyd;other mn;other op;");
        Due.same("nothing told", x.laws(0), 40);
        Due.same("the least A", x.laws(1), 0);
        Due.same("the greatest B", x.laws(2), 8);
        x.tell(2, 3, true);
        x.tell(4, 5, false);
        // edits 3 rhyme 1 near; edits 2 rhyme 0 not: A 0 or 1 and B 1.
        Due.same("two", x.laws(0), 2);
        Due.same("A", x.laws(1), 0);
        Due.same("B", x.laws(2), 1);
        NameOrchard y = Due.told("other abcdefgh;other zbcdefgh;other mnop;other qrsp;");
        y.tell(0, 1, true);
        y.tell(2, 3, false);
        // edits 1 rhyme 7 near; edits 3 rhyme 1 not: A 0 and B 2 .. 7, A 1 or 2 and B 2 .. 8.
        Due.same("twenty", y.laws(0), 6 + 7 + 7);
        Due.same("A", y.laws(1), 0);
        Due.same("B", y.laws(2), 7);
    }

    // "NONE: others, none (but 0)"
    private static void noLaw() {
        NameOrchard x = Due.told("other a;");
        x.tell(0, 0, false);
        for (int what = -1; what < 4; what++) {
            Due.same("laws " + what, x.laws(what), what == 0 ? 0 : -1);
        }
    }

    private static void othersOfLaws() {
        for (int bad : BAD) {
            Due.same("laws " + bad, new NameOrchard().laws(bad), -1);
        }
        Due.same("laws 3", new NameOrchard().laws(3), -1);
        Due.same("of nothing", new NameOrchard().laws(0), 40);
    }

    // "in so many days (1 to 30)"; "NONE: others"
    private static void lossDays() {
        NameOrchard x = Due.told(plain("a", 0, 0, 10) + "stranger a 5;");
        for (int bad : BAD) {
            Due.same("loss " + bad, x.loss(bad), -1);
            Due.same("best " + bad, x.best(0, bad), -1);
        }
        Due.same("loss 0", x.loss(0), -1);
        Due.same("best 0", x.best(0, 0), -1);
        Due.same("1 day", x.loss(1), 5000);
        Due.same("2 days", x.loss(2), 7500);
        Due.same("29 days: cut so often that none is left", x.loss(29), 10000);
        Due.same("30 days", x.loss(30), 10000);
        Due.same("at first", new NameOrchard().loss(30), 0);
        Due.same("no strangers", Due.told(plain("a", 0, 0, 99)).loss(30), 0);
    }

    // "in thousandths, cut"; "by 10, cut"; "by 1,000, cut, each; all together"
    private static void cutAndCut() {
        for (int chance = 0; chance <= 10; chance++) {
            NameOrchard x = Due.told(plain("a", 0, 0, 1) + plain("b", 0, 0, 99) + plain("c", 0, 0, 98) + "stranger a "
                    + chance + ";near 1;");
            int stays = 1000000;
            for (int day = 1; day <= 30; day++) {
                stays = stays * (10 - chance) / 10;
                int called = 1000000 - stays;
                int due = called / 1000 + 99 * called / 1000 + 98 * called / 1000;
                Due.same("chance " + chance + ", " + day + " days", x.loss(day), due);
            }
        }
        NameOrchard y = Due.told(plain("a", 0, 0, 7) + "stranger a 7;");
        // 300000 90000 27000 8100 2430 729 218: 7 * 999782 = 6998474.
        Due.same("seven days", y.loss(7), 6998);
    }

    // "by strangers as told, day by day"
    private static void asToldDayByDay() {
        String apple = plain("a", 0, 0, 98) + "other b;near 1;";
        Due.same("0.9, then 0.8", Due.told(apple + "stranger a 1;stranger b 2;").loss(23), 97949);
        Due.same("0.8, then 0.9", Due.told(apple + "stranger a 2;stranger b 1;").loss(23), 97948);
        StringBuilder six = new StringBuilder(plain("a", 0, 0, 99) + Many.others(6) + "near 1;");
        for (int i = 0; i < 6; i++) {
            six.append("stranger ").append(Many.other(i)).append(" 1;");
        }
        int stays = 1000000;
        for (int i = 0; i < 6; i++) {
            stays = stays * 9 / 10;
        }
        Due.same("six strangers", Due.told(six.toString()).loss(1), 99 * (1000000 - stays) / 1000);
    }

    // "of ten a day 0 to 10"
    private static void neverAndForSure() {
        for (int days = 1; days <= 30; days += 29) {
            Due.same("never", Due.told(plain("a", 0, 0, 99) + "stranger a 0;").loss(days), 0);
            Due.same("for sure", Due.told(plain("a", 0, 0, 99) + "stranger a 10;").loss(days), 99000);
            Due.same("all ten", Due.told(Many.apples(10).replace("worth 1", "worth 99") + "stranger aa 10;near 1;")
                    .loss(days), 990000);
            Due.same("worth nothing", Due.told(plain("a", 0, 0, 0) + "stranger a 10;").loss(days), 0);
        }
    }

    // "of each APPLE that hangs and is not deaf: its worth (as told)"; "(wholly heard by all; a welsh one, too)"
    private static void hangsAndHears() {
        NameOrchard x = Due.told("apple a welsh at 0 11 ripe 60 worth 1;apple b deaf at 0 0 ripe 0 worth 2;"
                + "apple c plain at 0 0 ripe 60 worth 4;apple d alias at 0 0 ripe 0 worth 8;stranger a 10;near 1;value 0;"
                + "twin b c;");
        Due.same("a and c", x.loss(1), 5000);
        x.pick(2);
        Due.same("a", x.loss(1), 1000);
        x.pass(1);
        x.pick(0);
        Due.same("nothing", x.loss(30), 0);
        NameOrchard y = Due.told("apple a plain at 0 0 ripe 0 worth 1;apple b deaf at 0 0 ripe 0 worth 2;twin a b;"
                + "stranger a 10;");
        Due.same("a twin is not lost with it", y.loss(1), 1000);
    }

    // "calls what is NEAR to it": its SOUND as it is now; for an alias that SOUND.
    private static void soundsOfNow() {
        for (String sort : new String[] {"plain", "alias"}) {
            NameOrchard x = Due.told("apple tom " + sort + " at 0 0 ripe 9 worth 10;other tim;other jill;stranger tim 5;"
                    + "near edits<2;");
            Due.same("near, " + sort, x.loss(1), sort.equals("alias") ? 0 : 5000);
            x.christen(0, 2);
            Due.same("not near, " + sort, x.loss(1), 0);
            x.christen(0, 1);
            Due.same("itself, " + sort, x.loss(1), 5000);
        }
    }

    // "BEST name for an APPLE that hangs: of SOUNDS that no other one that hangs has the one by which LOSS .. is the least"
    private static void bestOfThoseFree() {
        NameOrchard x = Due.told(plain("a", 0, 0, 10) + plain("b", 0, 0, 10) + "other c;other d;stranger a 9;stranger b 1;"
                + "stranger c 5;stranger d 4;");
        Due.same("d", x.best(0, 1), 3);
        Due.same("its own", x.best(1, 1), 1);
        x.pick(1);
        Due.same("b is free", x.best(0, 1), 1);
        Due.same("for 30 days all are lost, cut", x.best(0, 30), 1);
        x.undo();
        x.christen(0, 3);
        Due.same("a ripe one stays what it is", x.apple(0, 6), 0);
        NameOrchard y = Due.told(plain("a", 0, 9, 10) + plain("b", 0, 9, 10) + "stranger a 9;");
        Due.same("nothing but its own is free", y.best(0, 1), 0);
        NameOrchard z = Due.told("apple tom alias at 0 0 ripe 9 worth 10;other tim;other jill;stranger tom 5;stranger jill 5;"
                + "near 1;");
        Due.same("of an alias: its very SOUND", z.best(0, 1), 1);
        NameOrchard w = Due.told("apple tom plain at 0 0 ripe 9 worth 10;other tim;other jill;stranger tom 5;"
                + "near edits<2;");
        Due.same("of one that is none: what is near", w.best(0, 1), 2);
    }

    // "of equal ones the first"
    private static void ofEqualOnesTheFirst() {
        NameOrchard x = Due.told("other c;" + plain("a", 0, 0, 10) + "other d;stranger a 5;");
        Due.same("c ahead of d", x.best(0, 1), 0);
        NameOrchard y = Due.told(plain("a", 0, 0, 10) + "other d;");
        Due.same("its own ahead of d", y.best(0, 1), 0);
        NameOrchard z = Due.told("other c;apple a deaf at 0 0 ripe 0 worth 9;stranger c 10;");
        Due.same("a deaf one", z.best(0, 30), 0);
        NameOrchard w = Due.told("other c;" + plain("a", 0, 0, 0) + "stranger c 10;");
        Due.same("one worth nothing", w.best(0, 30), 0);
    }

    // "NONE: others, it doesn't hang."
    private static void noBest() {
        NameOrchard x = Due.told(plain("a", 0, 0, 10) + "other b;");
        for (int bad : BAD) {
            Due.same("best of " + bad, x.best(bad, 1), -1);
        }
        Due.same("a second one", x.best(1, 1), -1);
        x.pick(0);
        Due.same("it doesn't hang", x.best(0, 1), -1);
        x.undo();
        Due.same("it hangs", x.best(0, 1), 0);
        Due.same("at first", new NameOrchard().best(0, 1), -1);
        String before = Due.state(x);
        x.best(0, 30);
        Due.text("nothing was named", Due.state(x), before);
    }
}
