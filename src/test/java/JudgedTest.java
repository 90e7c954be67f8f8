/** Promise 14: the days judged. */
public final class JudgedTest {
    private static final String FOUR = "apple tom plain at 0 0 ripe 1 worth 10;apple tim plain at 0 1 ripe 0 worth 6;"
            + "apple llew welsh at 0 0 ripe 0 worth 30;apple bess deaf at 1 2 ripe 2 worth 9;twin tim bess;other kim;"
            + "person joe lane 0 loud 0;person meg lane 0 loud 1 not tom;near edits<2;";

    private JudgedTest() {
    }

    private static void judged(String days, int refused, int green, int had) {
        NameOrchard x = Due.told(FOUR);
        Due.same("days " + days, Due.days(x, days), 0);
        Due.same("refused: " + days, x.judged(0), refused);
        Due.same("green: " + days, x.judged(1), green);
        Due.same("had: " + days, x.judged(2), had);
        Due.same("nothing was done by hand", x.count(6) * 100 + x.count(8), 400);
    }

    public static void main(String[] args) {
        judged("", -1, -1, 0);
        judged("day;day;day;", -1, -1, 0);
        judged("call joe tom;", -1, 0, 0);
        judged("day;call joe tom;", -1, -1, 10);
        judged("call meg tom;day;call joe tom;", 0, -1, 10);
        judged("call joe llew;call meg llew;", -1, -1, 30);
        judged("call joe kim;call meg kim;", -1, 1, 6);
        judged("day;day;call joe kim;call meg kim;", -1, -1, 15);
        judged("pick tim;pick llew;day;pick llew;", 1, -1, 36);
        judged("pick tom;day;pick tim;", -1, -1, 6);
        judged("pick bess;", -1, -1, 0);
        judged("pick tim;day;pick tim;pick llew;", 2, -1, 36);
        judged("call meg kim;pick bess;pick tim;pick llew;", 1, 0, 36);
        judged("day;call joe tom;pick tom;call meg kim;call meg tom;", 2, 3, 16);
        judged("pick llew;pick tom;call joe tom;call meg tom;", 1, 2, 30);
        NameOrchard x = Due.told(FOUR);
        Due.same("what 3", x.judged(3), -2);
        Due.same("what -1", x.judged(-1), -2);
        x.pass(5);
        x.christen(0, 4);
        x.pick(0);
        x.pick(1);
        Due.days(x, "call joe tom;call meg kim;");
        Due.same("from the beginning, with the sounds told", x.judged(1), 0);
        Due.same("nothing is refused", x.judged(0), -1);
        Due.same("tim", x.judged(2), 6);
        Due.days(x, "call joe x");
        Due.same("a fault leaves the lines", x.judged(2), 6);
        Due.end();
    }
}
