/** Promises 9 to 13 and 27: calls, picking, christening, days and undoing by hand, and marks. */
public final class HandTest {
    private static final String FOUR = "apple tom plain at 0 0 ripe 3 worth 10;apple tim plain at 0 1 ripe 0 worth 6;"
            + "apple llew welsh at 0 0 ripe 0 worth 30;apple bess deaf at 1 2 ripe 0 worth 9;twin tim bess;other kim;"
            + "other sam;person joe lane 0 loud 1;person meg lane 2 loud 1 not tom;near edits<2;";

    private HandTest() {
    }

    public static void main(String[] args) {
        calling();
        worths();
        picking();
        christening();
        passing();
        undoing();
        sixteen();
        marks();
        marksHold();
        Due.end();
    }

    private static void calling() {
        NameOrchard x = Due.told(FOUR);
        Due.same("he can't say it", x.call(1, 0), -1);
        Due.same("no person", x.call(2, 0), -1);
        Due.same("no person", x.call(-1, 0), -1);
        Due.same("no sound", x.call(0, 6), -1);
        Due.same("no sound", x.call(0, -1), -1);
        Due.same("nothing was called", x.count(12), 0);
        Due.same("a call in vain is a call", x.call(0, 5), 0);
        Due.same("it can be undone", x.count(12), 1);
        Due.same("kim: tim and its twin", x.call(0, 4), 10);
        Due.same("two hang", x.count(6), 2);
        Due.same("had", x.count(8), 15);
        Due.same("tom falls green: nothing had", x.call(0, 0), 1);
        Due.same("had still", x.count(8), 15);
        Due.same("kim once more", x.call(0, 4), 0);
        Due.same("llew", x.call(0, 2), 0);
        Due.same("llew again", x.call(0, 2), 4);
        Due.same("had at last", x.count(8), 45);
        Due.same("none hangs", x.count(6), 0);
    }

    private static void worths() {
        NameOrchard x = Due.told(FOUR + "value base*50-age;");
        x.pass(1);
        Due.same("by the value of the day", x.call(0, 1), 11);
        Due.same("300-1 and 449 and, of tom, 502", x.count(8), 299 + 449 + 502);
        NameOrchard y = Due.told(FOUR + "value base*100-301;");
        Due.same("699 and 599 and 699", y.call(0, 1), 11);
        Due.same("each", y.count(8), 699 + 299 + 599);
        NameOrchard z = Due.told(FOUR + "value base*200-1500;");
        z.call(0, 1);
        Due.same("500, 0 below it, 300", z.count(8), 500 + 300);
        NameOrchard w = Due.told(FOUR + "value base*1000;");
        w.call(0, 1);
        Due.same("999 above", w.count(8), 999 * 3);
    }

    private static void picking() {
        NameOrchard x = Due.told(FOUR);
        Due.same("no apple", x.pick(4), -1);
        Due.same("no apple", x.pick(-1), -1);
        Due.same("nothing was picked", x.count(14) + x.count(12), 0);
        Due.same("tim", x.pick(1), 6);
        Due.same("its twin stays", x.apple(3, 5), 1);
        Due.same("one a day", x.pick(3), -1);
        Due.same("one to undo", x.count(12), 1);
        Due.same("was picked", x.count(14), 1);
        x.pass(1);
        Due.same("a new day", x.count(14), 0);
        Due.same("it doesn't hang", x.pick(1), -1);
        Due.same("that does not count", x.count(14), 0);
        Due.same("a green one is had for nothing", x.pick(0), 0);
        Due.same("but was picked", x.count(14), 1);
        x.pass(1);
        Due.same("a deaf one", x.pick(3), 9);
        Due.same("had", x.count(8), 15);
        x.pass(1);
        x.call(0, 2);
        Due.same("loose", x.apple(2, 7), 1);
        Due.same("llew", x.pick(2), 30);
        Due.same("loose no more", x.apple(2, 7), 0);
    }

    private static void christening() {
        NameOrchard x = Due.told(FOUR);
        Due.no("not green", x.christen(1, 4));
        Due.no("no apple", x.christen(4, 4));
        Due.no("no apple", x.christen(-1, 4));
        Due.no("no sound", x.christen(0, 6));
        Due.no("no sound", x.christen(0, -1));
        Due.no("its own", x.christen(0, 0));
        Due.no("one that another has", x.christen(0, 1));
        Due.same("nothing to undo", x.count(12), 0);
        Due.yes("kim", x.christen(0, 4));
        Due.same("kim now", x.apple(0, 6), 4);
        Due.same("one to undo", x.count(12), 1);
        Due.no("kim again", x.christen(0, 4));
        Due.same("kim is called: both", x.falls(0, 4), 11);
        Due.same("tom is no kim, tim is near", x.falls(0, 0), 10);
        Due.yes("tom again", x.christen(0, 0));
        x.pick(1);
        Due.yes("what hangs no more has no name", x.christen(0, 1));
        x.pass(2);
        Due.yes("green on day 2", x.christen(0, 4));
        x.pass(1);
        Due.no("ripe on day 3", x.christen(0, 0));
        NameOrchard y = Due.told(FOUR);
        y.pick(0);
        Due.no("it doesn't hang", y.christen(0, 4));
    }

    private static void passing() {
        NameOrchard x = Due.told(FOUR);
        Due.same("0", x.pass(0), -1);
        Due.same("31", x.pass(31), -1);
        Due.same("-1", x.pass(-1), -1);
        Due.same("nothing to undo", x.count(12), 0);
        Due.same("1", x.pass(1), 1);
        Due.same("30", x.pass(30), 31);
        Due.same("two to undo", x.count(12), 2);
        Due.same("the day", x.count(7), 31);
        Due.yes("undo 30 days", x.undo());
        Due.same("the day then", x.count(7), 1);
    }

    private static void undoing() {
        NameOrchard x = Due.told(FOUR);
        Due.no("nothing", x.undo());
        x.call(0, 2);
        x.pick(1);
        x.christen(0, 4);
        x.pass(2);
        Due.days(x, "day;");
        x.lies(0, true);
        x.tell(0, 1, true);
        Due.yes("the days", x.undo());
        Due.same("day 0", x.count(7), 0);
        Due.same("one was picked then", x.count(14), 1);
        Due.yes("the name", x.undo());
        Due.same("tom", x.apple(0, 6), 0);
        Due.yes("the picking", x.undo());
        Due.same("tim hangs", x.apple(1, 5), 1);
        Due.same("nothing had", x.count(8), 0);
        Due.same("none picked", x.count(14), 0);
        Due.same("llew is loose", x.apple(2, 7), 1);
        Due.yes("the call", x.undo());
        Due.same("llew is fast", x.apple(2, 7), 0);
        Due.no("no more", x.undo());
        Due.same("the lines stay", x.count(9), 1);
        Due.same("what lies stays", x.count(10), 1);
        Due.same("what is told stays", x.count(11), 1);
    }

    private static void sixteen() {
        NameOrchard x = Due.told(FOUR);
        for (int day = 1; day <= 20; day++) {
            Due.same("day", x.pass(1), day);
            Due.same("to undo", x.count(12), Math.min(day, 16));
        }
        for (int left = 15; left >= 0; left--) {
            Due.yes("one", x.undo());
            Due.same("left", x.count(12), left);
            Due.same("day", x.count(7), left + 4);
        }
        Due.no("a seventeenth", x.undo());
        x.pass(3);
        x.pass(3);
        Due.yes("again", x.undo());
        Due.same("day", x.count(7), 7);
    }

    private static void marks() {
        NameOrchard x = Due.told(FOUR);
        Due.no("mark 4", x.mark(4, false));
        Due.no("mark -1", x.mark(-1, false));
        Due.no("mark 4 back", x.mark(4, true));
        Due.no("mark -1 back", x.mark(-1, true));
        for (int mark = 0; mark < 4; mark++) {
            Due.no("nothing is on it", x.mark(mark, true));
        }
        for (int mark = 0; mark < 4; mark++) {
            Due.yes("laid", x.mark(mark, false));
            x.pass(1);
        }
        Due.same("four to undo: marks are none", x.count(12), 4);
        for (int mark = 3; mark >= 0; mark--) {
            Due.yes("back", x.mark(mark, true));
            Due.same("the day", x.count(7), mark);
            Due.no("nothing can be undone", x.undo());
        }
        x.pass(9);
        Due.yes("laid anew", x.mark(0, false));
        x.pass(1);
        Due.same("undo stays behind a mark laid", x.count(12), 2);
        Due.yes("back", x.mark(0, true));
        Due.yes("back twice", x.mark(0, true));
        Due.same("day 9", x.count(7), 9);
        x.orchard();
        Due.no("no mark of another orchard", x.mark(0, true));
    }

    private static void marksHold() {
        NameOrchard x = Due.told(FOUR);
        x.call(0, 2);
        x.pick(1);
        x.christen(0, 4);
        Due.days(x, "call joe llew;day;");
        x.lies(0, true);
        x.lies(2, false);
        x.tell(0, 1, true);
        x.mark(1, false);
        x.call(0, 2);
        x.pass(1);
        x.pick(3);
        x.christen(0, 5);
        Due.days(x, "day;");
        x.lies(0, false);
        x.lies(1, true);
        x.tell(0, 2, true);
        x.tell(0, 3, true);
        x.feed('o', 0, 0);
        Due.yes("back", x.mark(1, true));
        int[] due = {4, 6, 2, 0, 0, 0, 3, 0, 6, 2, 2, 1, 0, 1, 1};
        for (int what = 0; what < due.length; what++) {
            Due.same("back: count " + what, x.count(what), due[what]);
        }
        Due.same("kim", x.apple(0, 6), 4);
        Due.same("loose", x.apple(2, 7), 1);
        Due.same("what lies is as it was told then: tim or kim by joe", x.called(0), 2);
        Due.same("laws of what was told then", x.laws(0), 32 + 1);
        Due.same("lines of then", x.judged(2), 0);
    }
}
