/** Promises 21, 22 and 26: what strangers cost, which name is best, and years drawn. */
public final class ChanceTest {
    private ChanceTest() {
    }

    public static void main(String[] args) {
        losses();
        lossesOfSorts();
        bestNames();
        draws();
        drawnDays();
        drawnPicks();
        Due.end();
    }

    private static void losses() {
        NameOrchard x = Due.told("apple tom plain at 0 0 ripe 9 worth 10;apple tim plain at 0 11 ripe 0 worth 7;"
                + "other kim;stranger tom 3;stranger kim 1;near edits<2;");
        Due.same("0 days", x.loss(0), -1);
        Due.same("31 days", x.loss(31), -1);
        Due.same("-1 days", x.loss(-1), -1);
        // tom: 0.7 stays; tim: 0.7 and 0.9 of that.
        Due.same("1 day", x.loss(1), 3000 + 7 * 370);
        Due.same("2 days", x.loss(2), 10 * 510 + 7 * (1000000 - 396900) / 1000);
        int tom = 1000000;
        int tim = 1000000;
        for (int day = 0; day < 30; day++) {
            tom = tom * 7 / 10;
            tim = tim * 7 / 10 * 9 / 10;
        }
        Due.same("30 days", x.loss(30), 10 * (1000000 - tom) / 1000 + 7 * (1000000 - tim) / 1000);
        x.pick(1);
        Due.same("of what hangs", x.loss(1), 3000);
        x.christen(0, 2);
        Due.same("by its sound now", x.loss(1), 1000);
        Due.same("nothing", new NameOrchard().loss(1), 0);
        NameOrchard y = Due.told("apple a plain at 0 0 ripe 0 worth 99;stranger a 10;");
        Due.same("for sure", y.loss(1), 99000);
        NameOrchard z = Due.told("apple a plain at 0 0 ripe 0 worth 99;stranger a 0;");
        Due.same("never", z.loss(30), 0);
        NameOrchard w = Due.told("apple a plain at 0 0 ripe 0 worth 1;apple b plain at 0 0 ripe 0 worth 1;other c;"
                + "stranger a 3;stranger b 3;stranger c 3;near 1;");
        Due.same("each cut for itself: 1000000, 700000, 490000, 343000, 240100, 168070, 117649", w.loss(2), 2 * 882);
    }

    private static void lossesOfSorts() {
        NameOrchard x = Due.told("apple tom welsh at 0 0 ripe 9 worth 10;apple tim deaf at 0 0 ripe 9 worth 20;"
                + "apple tam alias at 0 0 ripe 9 worth 40;apple jo plain at 0 0 ripe 9 worth 80;"
                + "stranger tom 5;stranger tim 5;near edits<2;twin tim tom;");
        Due.same("a welsh one wholly, a deaf one never, an alias by its own", x.loss(1), 7500);
        x.christen(0, 3);
        Due.same("jo is had", x.loss(1), 7500);
        x.pick(3);
        x.christen(0, 3);
        Due.same("jo", x.loss(1), 0);
        x.christen(2, 0);
        Due.same("an alias by the name it has now", x.loss(1), 20000);
        NameOrchard y = Due.told("other a;other bc;apple d plain at 0 0 ripe 0 worth 10;stranger a 1;stranger bc 10;"
                + "near size=1;");
        Due.same("the one called comes first", y.loss(1), 1000);
    }

    private static void bestNames() {
        NameOrchard x = Due.told("apple tom plain at 0 0 ripe 0 worth 10;apple tim plain at 0 0 ripe 0 worth 6;other kim;"
                + "other jo;other mo;stranger tom 5;stranger kim 2;near edits<2;");
        Due.same("no apple", x.best(2, 1), -1);
        Due.same("no apple", x.best(-1, 1), -1);
        Due.same("0 days", x.best(0, 0), -1);
        Due.same("31 days", x.best(0, 31), -1);
        Due.same("the first of equal ones", x.best(0, 1), 3);
        Due.same("for tim", x.best(1, 30), 3);
        Due.same("nothing was named", x.apple(0, 6), 0);
        x.pick(1);
        Due.same("it doesn't hang", x.best(1, 1), -1);
        NameOrchard y = Due.told("apple a plain at 0 0 ripe 0 worth 1;apple b plain at 0 0 ripe 0 worth 1;other c;"
                + "stranger a 5;stranger c 5;");
        Due.same("b is another's: its own, the first", y.best(0, 1), 0);
        y.pick(1);
        Due.same("b is free now", y.best(0, 1), 1);
        NameOrchard z = Due.told("other c;apple a deaf at 0 0 ripe 0 worth 1;apple b plain at 0 0 ripe 0 worth 1;"
                + "stranger a 5;stranger c 5;");
        Due.same("a deaf one: the first", z.best(0, 1), 0);
    }

    private static void draws() {
        NameOrchard x = Due.told("apple tom plain at 0 0 ripe 9 worth 10;stranger tom 4;value base;");
        Due.same("seed -1", x.years(-1, 1, 0), -1);
        Due.same("seed 10000", x.years(10000, 1, 0), -1);
        Due.same("0 days", x.years(1, 0, 0), -1);
        Due.same("61 days", x.years(1, 61, 0), -1);
        Due.same("what 3", x.years(1, 1, 3), -1);
        Due.same("what -1", x.years(1, 1, -1), -1);
        int fell = 0;
        for (int seed = 0; seed < 100; seed++) {
            Draws d = new Draws(seed * 101 % 10000);
            boolean falls = d.below(10) < 4 && d.below(12) < 4;
            fell += falls ? 1 : 0;
            Due.same("had, seed " + seed, x.years(seed * 101 % 10000, 1, 0), falls ? 10 : 0);
            Due.same("green, seed " + seed, x.years(seed * 101 % 10000, 1, 1), falls ? 1 : 0);
            Due.same("hang, seed " + seed, x.years(seed * 101 % 10000, 1, 2), falls ? 0 : 1);
        }
        Due.yes("some fell", fell > 3 && fell < 60);
        Due.same("all is as ahead", x.count(6) * 100 + x.count(7) + x.count(8) + x.count(12), 100);
    }

    private static void drawnDays() {
        NameOrchard x = Due.told("apple tom plain at 0 0 ripe 60 worth 10;apple tim plain at 0 0 ripe 60 worth 5;"
                + "person p lane 0 loud 0 not tom;person q lane 0 loud 0;value base-age;other jo;");
        for (int seed = 7; seed < 40; seed++) {
            Draws d = new Draws(seed);
            int hang = 3;
            int had = 0;
            for (int day = 0; day < 5; day++) {
                int person = d.below(2);
                int sound = d.below(3);
                boolean can = person == 1 || sound == 2;
                if (can && sound < 2 && (hang >> sound & 1) != 0) {
                    hang &= ~(1 << sound);
                    had += (sound == 0 ? 10 : 5) - day + 60;
                }
            }
            Due.same("had, seed " + seed, x.years(seed, 5, 0), had);
            Due.same("green, seed " + seed, x.years(seed, 5, 1), 2 - Integer.bitCount(hang));
            Due.same("hang, seed " + seed, x.years(seed, 5, 2), Integer.bitCount(hang));
        }
        NameOrchard one = Due.told("apple tom plain at 0 0 ripe 60 worth 10;person p lane 0 loud 0;");
        Due.same("one sound: it is called", one.years(0, 1, 2), 0);
        NameOrchard none = Due.told("person p lane 0 loud 0;");
        Due.same("no sounds", none.years(0, 60, 2), 0);
    }

    private static void drawnPicks() {
        NameOrchard x = Due.told("apple a plain at 0 0 ripe 2 worth 1;apple b deaf at 0 0 ripe 0 worth 2;"
                + "apple c welsh at 0 0 ripe 1 worth 4;apple d plain at 0 0 ripe 5 worth 8;twin a b;");
        Due.same("day 0: b", x.years(0, 1, 0), 2);
        Due.same("its twin stays", x.years(0, 1, 2), 3);
        Due.same("day 1: c", x.years(0, 2, 0), 6);
        Due.same("day 2: a", x.years(0, 3, 0), 7);
        Due.same("days 3 and 4: none", x.years(0, 5, 0), 7);
        Due.same("day 5: d", x.years(0, 6, 0), 15);
        Due.same("none green: they were picked", x.years(0, 60, 1), 0);
        x.pick(1);
        Due.same("one was picked today", x.years(0, 1, 0), 0);
        Due.same("had by these", x.years(0, 2, 0), 4);
        x.pass(3);
        Due.same("from now on: a is the first ripe one", x.years(0, 1, 0), 1);
        Due.same("all is as ahead", x.count(8), 2);
        Due.same("none was picked", x.count(14), 0);
    }
}
