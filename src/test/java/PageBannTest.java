import java.util.NoSuchElementException;

/** Promises 23 to 25: thieves with a page, which page to hide, and banns by weeks. */
public final class PageBannTest {
    private static final String FOUR = "other kim;apple tom plain at 0 0 ripe 9 worth 10;"
            + "apple tim plain at 0 1 ripe 0 worth 6;apple ann alias at 0 2 ripe 9 worth 20;"
            + "apple llew welsh at 0 3 ripe 0 worth 30;near edits<2;";

    private PageBannTest() {
    }

    public static void main(String[] args) {
        thieves();
        thievesRefused();
        thievesAfterChanges();
        hiding();
        orders();
        ordersByDay();
        manyOrders();
        Due.end();
    }

    private static int thief(NameOrchard x, int page, int lane, int loud) {
        try {
            return x.thief(page, lane, loud);
        } catch (NoSuchElementException e) {
            return -1000;
        }
    }

    private static void thieves() {
        NameOrchard x = Due.told(FOUR + "page tom;page ann llew;page llew ann tim;page tim;");
        Due.same("tom and tim", thief(x, 0, 1, 1), 16);
        Due.same("ann, and llew is but loose", thief(x, 1, 2, 1), 20);
        Due.same("ann and tim and tom", thief(x, 2, 1, 6), 36);
        Due.same("tim and tom", thief(x, 3, 0, 6), 16);
        NameOrchard y = Due.told("apple a welsh at 0 0 ripe 0 worth 5;apple b plain at 0 2 ripe 0 worth 7;near 1;"
                + "page a;page b a;");
        Due.same("once", thief(y, 0, 0, 1), 0);
        Due.same("twice, the first call and the second one", thief(y, 1, 0, 1), 12);
        StringBuilder ten = new StringBuilder();
        for (char c = 'a'; c < 'k'; c++) {
            ten.append("apple ").append(c).append(" plain at 0 0 ripe 0 worth ").append(1 + c - 'a').append(';');
        }
        NameOrchard z = Due.told(ten + "page j i h g f e d c b a;page a;page b c d e f g h i j;");
        Due.same("all ten", thief(z, 0, 0, 0), 55);
        Due.same("one", thief(z, 1, 0, 0), 1);
        Due.same("nine", thief(z, 2, 0, 0), 54);
    }

    private static void thievesRefused() {
        NameOrchard x = Due.told(FOUR + "page tom;page ann llew;");
        int[][] bad = {{2, 0, 0}, {-1, 0, 0}, {0, 12, 0}, {0, -1, 0}, {0, 0, 7}, {0, 0, -1},
            {Integer.MAX_VALUE, 0, 0}, {0, Integer.MIN_VALUE, 0}};
        for (int[] b : bad) {
            Due.same("thief " + b[0] + " " + b[1] + " " + b[2], thief(x, b[0], b[1], b[2]), -1000);
        }
        Due.same("no pages", thief(new NameOrchard(), 0, 0, 0), -1000);
        Due.same("lane 11, loud 6", thief(x, 0, 11, 6), 0);
        Due.same("lane 0, loud 0", thief(x, 0, 0, 0), 10);
    }

    private static void thievesAfterChanges() {
        NameOrchard x = Due.told(FOUR + "page tom;page ann llew;page llew ann tim;twin ann tim;"
                + "apple eve deaf at 0 0 ripe 0 worth 1;page tom tim eve;");
        Due.same("tom and, near, tim and its twin", thief(x, 0, 0, 1), 10 + 6 + 20);
        Due.same("tom alone is heard wholly", thief(x, 0, 0, 0), 10);
        Due.same("an echo of tim, that is loose then", thief(x, 3, 3, 1), 6 + 20);
        Due.same("green or not: worth as told", thief(x, 1, 2, 0), 20 + 6);
        Due.same("llew is but loose", thief(x, 1, 3, 6), 26);
        x.call(0, 0);
        Due.same("nobody called", x.count(12), 0);
        Due.yes("tom is kim", x.christen(0, 0));
        Due.same("sounds as told: kim is not near to tom", thief(x, 0, 0, 0), 0);
        Due.same("tim is near to both", thief(x, 3, 0, 1), 10 + 6 + 20);
        Due.same("nothing fell", x.count(6), 5);
        x.pick(1);
        Due.same("as it hangs", thief(x, 3, 0, 1), 10);
        NameOrchard y = Due.told(FOUR + "page tom;");
        Due.yes("ann is kim", y.christen(2, 0));
        y.pick(2);
        Due.same("what hangs no more", thief(y, 0, 0, 6), 16);
    }

    private static void hiding() {
        NameOrchard x = Due.told(FOUR + "page tom;page ann llew;page tim ann;");
        Due.same("lane 12", x.hide(12, 0), -1);
        Due.same("lane -1", x.hide(-1, 0), -1);
        Due.same("loud 7", x.hide(0, 7), -1);
        Due.same("loud -1", x.hide(0, -1), -1);
        Due.same("16, 20, 36: the last", x.hide(1, 2), 2);
        Due.same("10, 0, 0: the first", x.hide(0, 0), 0);
        Due.same("0, 20, 20: of equal ones the first", x.hide(2, 0), 0);
        Due.same("nothing: the first", x.hide(11, 0), 0);
        NameOrchard one = Due.told(FOUR + "page tom;");
        Due.same("one page", one.hide(0, 0), -1);
        NameOrchard two = Due.told(FOUR + "page ann;page tom;");
        Due.same("two pages: 20, 16", two.hide(1, 2), 0);
        two.pick(2);
        Due.same("two pages: 0, 16", two.hide(1, 2), 1);
        Due.same("none", new NameOrchard().hide(0, 0), -1);
    }

    private static void banns(NameOrchard x, int lane, int loud, int lost, int[] order) {
        String text = "banns " + lane + " " + loud + " ";
        Due.same(text + 0, x.banns(lane, loud, 0), lost);
        for (int i = 0; i < order.length; i++) {
            Due.same(text + (1 + i), x.banns(lane, loud, 1 + i), order[i]);
        }
        Due.same(text + "beyond", x.banns(lane, loud, 1 + order.length), -1);
        Due.same(text + -1, x.banns(lane, loud, -1), -1);
    }

    private static void orders() {
        NameOrchard none = Due.told(FOUR);
        Due.same("no banns", none.banns(0, 0, 0), -1);
        NameOrchard x = Due.told(FOUR + "bann tom ann;bann tim kim;");
        Due.same("lane 12", x.banns(12, 0, 0), -1);
        Due.same("lane -1", x.banns(-1, 0, 0), -1);
        Due.same("loud 7", x.banns(0, 7, 0), -1);
        Due.same("loud -1", x.banns(0, -1, 0), -1);
        banns(x, 11, 0, 0, new int[] {0, 1});
        // tim is near to tom: lost for 6 either way; tom is ripe on day 9, ann too.
        banns(x, 0, 2, 6, new int[] {0, 1});
        x.pass(2);
        banns(x, 0, 2, 6, new int[] {0, 1});
        x.pass(7);
        banns(x, 0, 2, 36, new int[] {0, 1});
        Due.same("nothing fell", x.count(6), 4);
    }

    private static void ordersByDay() {
        NameOrchard x = Due.told("apple a plain at 0 0 ripe 0 worth 10;apple b plain at 0 0 ripe 0 worth 20;other c;"
                + "other d;bann a c;bann d b;value base-age;");
        // a first: 10 + 13; b first: 20 + 3.
        banns(x, 0, 0, 23, new int[] {0, 1});
        NameOrchard y = Due.told("apple a plain at 0 0 ripe 0 worth 10;apple b plain at 0 0 ripe 0 worth 20;other c;"
                + "other d;bann a c;bann d b;value base-2*age;");
        // a first: 10 + 6; b first: 20 + 0.
        banns(y, 0, 0, 16, new int[] {0, 1});
        NameOrchard z = Due.told("apple a plain at 0 0 ripe 0 worth 10;apple b plain at 0 0 ripe 0 worth 20;other c;"
                + "other d;bann d b;bann a c;value base-2*age;");
        banns(z, 0, 0, 16, new int[] {1, 0});
        NameOrchard w = Due.told("apple a welsh at 0 0 ripe 0 worth 10;apple b plain at 0 2 ripe 0 worth 5;other c;"
                + "bann a c;bann b a;bann c a;value base+age;");
        // b is an echo once only; a falls by its second call.
        banns(w, 0, 1, 17, new int[] {0, 1, 2});
        w.call(0, 0);
        NameOrchard v = Due.told("apple a welsh at 0 0 ripe 0 worth 10;other c;bann c a;bann a c;person p lane 0 loud 0;"
                + "value base+age;");
        v.call(0, 0);
        Due.same("loose already", v.banns(0, 0, 0), 10);
    }

    private static void manyOrders() {
        NameOrchard x = Due.told("apple a plain at 0 0 ripe 21 worth 1;apple b plain at 0 0 ripe 7 worth 1;"
                + "apple c plain at 0 0 ripe 14 worth 1;apple d plain at 0 0 ripe 0 worth 1;other e;"
                + "bann a e;bann b e;bann c e;bann e d;value 50*(not(age=0));");
        // All are worth nothing just on their days.
        banns(x, 0, 0, 0, new int[] {3, 1, 2, 0});
        NameOrchard y = Due.told("apple a plain at 0 0 ripe 21 worth 1;apple b plain at 0 0 ripe 7 worth 1;"
                + "apple c plain at 0 0 ripe 14 worth 1;apple d plain at 0 0 ripe 0 worth 1;other e;"
                + "bann a e;bann b e;bann c e;bann e d;value 50*(age=0);");
        banns(y, 0, 0, 0, new int[] {0, 2, 1, 3});
    }
}
