/** Promises 17 to 20: what lies and who was called, what sounded near and by which laws. */
public final class GuessTest {
    private static final String FIVE = "apple tom plain at 0 0 ripe 0 worth 1;apple tim plain at 0 2 ripe 0 worth 1;"
            + "apple ann alias at 0 1 ripe 0 worth 1;apple llew welsh at 0 0 ripe 0 worth 1;other kim;"
            + "person joe lane 0 loud 2;person meg lane 2 loud 0;person dumb lane 0 loud 6 not llew;near edits<2;";

    private GuessTest() {
    }

    public static void main(String[] args) {
        lying();
        whoCalled();
        parting();
        telling();
        lawsThatFit();
        twelve();
        Due.end();
    }

    private static void lying() {
        NameOrchard x = Due.told(FIVE);
        Due.no("no apple", x.lies(4, true));
        Due.no("no apple", x.lies(-1, true));
        Due.same("nothing told", x.count(10), 0);
        Due.yes("lies", x.lies(0, true));
        Due.yes("lies not", x.lies(1, false));
        Due.same("two", x.count(10), 2);
        Due.yes("told later", x.lies(0, false));
        Due.same("still two", x.count(10), 2);
        x.pick(2);
        Due.yes("of one that hangs no more", x.lies(2, true));
        Due.same("three", x.count(10), 3);
        Due.same("none by which it falls", x.called(0), 0);
    }

    private static void called(NameOrchard x, int many, int sounds, int people, int apple) {
        Due.same("called 0", x.called(0), many);
        Due.same("called 1", x.called(1), sounds);
        Due.same("called 2", x.called(2), people);
        Due.same("called 3", x.called(3), apple);
    }

    /*
     * joe:  tom 0 1, tim 0 1, ann 2, llew -, kim 1.
     * meg:  tom 1, tim 1, kim 1, else -.
     * dumb: all without l or the like: tom, tim, ann, kim as joe.
     */
    private static void whoCalled() {
        NameOrchard x = Due.told(FIVE);
        Due.same("what 4", x.called(4), -1);
        Due.same("what -1", x.called(-1), -1);
        Due.same("nothing told: all calls that can be", x.called(0), 14);
        Due.same("all sounds", x.called(1), 31);
        Due.same("all people", x.called(2), 7);
        x.lies(0, true);
        called(x, 4, 3, 5, -1);
        x.lies(1, false);
        called(x, 0, -1, -1, -1);
        x.lies(0, false);
        called(x, 5, 12, 7, 2);
        x.lies(1, true);
        called(x, 5, 19, 7, -1);
        x.lies(2, true);
        called(x, 0, -1, -1, -1);
        x.lies(1, false);
        called(x, 2, 4, 5, -1);
        x.lies(3, true);
        called(x, 0, -1, -1, -1);
        Due.same("nothing fell", x.count(6), 4);
        NameOrchard y = new NameOrchard();
        called(y, 0, -1, -1, -1);
    }

    private static void parting() {
        NameOrchard x = Due.told(FIVE);
        Due.same("tom 4 of 14, tim 9 of 14, ann 2 of 14: tim", x.called(3), 1);
        x.lies(1, true);
        Due.same("tom 4 of 9", x.called(3), 0);
        x.pick(0);
        Due.same("tom hangs no more", x.called(3), -1);
        NameOrchard y = Due.told("apple a plain at 0 0 ripe 0 worth 1;apple b plain at 0 0 ripe 0 worth 1;"
                + "person p lane 0 loud 0;");
        Due.same("of equal ones the first", y.called(3), 0);
        y.lies(0, false);
        Due.same("only one call is left", y.called(0), 1);
        Due.same("nothing is to be parted", y.called(3), -1);
        NameOrchard z = Due.told("apple a deaf at 0 0 ripe 0 worth 1;apple b plain at 0 0 ripe 0 worth 1;twin a b;"
                + "other c;person p lane 0 loud 0;");
        Due.same("a twin parts them as well, and comes first", z.called(3), 0);
    }

    private static void telling() {
        NameOrchard x = Due.told(FIVE);
        Due.no("no sound", x.tell(5, 0, true));
        Due.no("no sound", x.tell(-1, 0, true));
        Due.no("no sound", x.tell(0, 5, true));
        Due.no("no sound", x.tell(0, -1, false));
        Due.same("nothing told", x.count(11), 0);
        Due.yes("to itself", x.tell(4, 4, true));
        Due.yes("what the law denies", x.tell(0, 3, true));
        Due.same("two", x.count(11), 2);
    }

    private static void laws(NameOrchard x, int many, int a, int b) {
        Due.same("laws 0", x.laws(0), many);
        Due.same("laws 1", x.laws(1), a);
        Due.same("laws 2", x.laws(2), b);
        Due.same("laws 3", x.laws(3), -1);
        Due.same("laws -1", x.laws(-1), -1);
    }

    private static void lawsThatFit() {
        NameOrchard x = Due.told("other tom;other tim;other jerome;other chrome;other b;other abcdefgh;");
        laws(x, 40, 0, 8);
        x.tell(0, 1, true);
        laws(x, 33, 0, 1);
        x.tell(0, 4, false);
        laws(x, 17, 0, 1);
        x.tell(1, 4, false);
        laws(x, 17, 0, 1);
        x.tell(2, 3, true);
        laws(x, 13, 0, 1);
        x.tell(3, 2, false);
        laws(x, 0, -1, -1);
        NameOrchard y = Due.told("other jerome;other chrome;other a;other b;");
        y.tell(0, 1, true);
        laws(y, 24 + 8, 0, 4);
        y.tell(2, 3, false);
        laws(y, 4, 0, 4);
        NameOrchard z = Due.told("other jerome;other chrome;");
        z.tell(0, 1, false);
        laws(z, 2 * 4, 0, 8);
        z.tell(0, 0, true);
        laws(z, 8, 0, 8);
        z.tell(1, 1, false);
        laws(z, 0, -1, -1);
    }

    private static void twelve() {
        NameOrchard x = Due.told(FIVE);
        for (int i = 0; i < 12; i++) {
            Due.yes("told", x.tell(0, 1, true));
        }
        Due.no("a thirteenth", x.tell(0, 1, true));
        Due.same("twelve", x.count(11), 12);
        Due.same("all the same", x.laws(0), 33);
    }
}
