/** Promises 15 and 16: the crop at its ripest, and the fewest calls that fetch all. */
public final class CropFetchTest {
    private CropFetchTest() {
    }

    public static void main(String[] args) {
        ripest();
        first();
        loose();
        twins();
        many();
        manyCalls();
        fetching();
        fetchingHard();
        Due.end();
    }

    private static void crop(NameOrchard x, int days, int had, int first) {
        Due.same("crop " + days + " 0", x.crop(days, 0), had);
        Due.same("crop " + days + " 1", x.crop(days, 1), first);
    }

    private static void ripest() {
        NameOrchard x = Due.told("apple a plain at 0 0 ripe 1 worth 10;apple b plain at 0 0 ripe 0 worth 9;"
                + "apple c plain at 0 9 ripe 0 worth 50;person p lane 0 loud 0;value base-age*age*2;");
        crop(x, 0, 0, -1);
        crop(x, 1, 9, 1);
        crop(x, 2, 19, 1);
        crop(x, 3, 19, 1);
        Due.same("4 days", x.crop(4, 0), -2);
        Due.same("-1 days", x.crop(-1, 0), -2);
        Due.same("what 2", x.crop(1, 2), -2);
        Due.same("what -1", x.crop(1, -1), -2);
        Due.same("nothing is done", x.count(6) * 100 + x.count(12), 300);
        x.pass(1);
        crop(x, 1, 10, 0);
        crop(x, 2, 15, 1);
        x.call(0, 0);
        crop(x, 2, 7, 1);
        x.call(0, 1);
        crop(x, 3, 0, -1);
        NameOrchard none = new NameOrchard();
        crop(none, 3, 0, -1);
        NameOrchard late = Due.told("apple a plain at 0 0 ripe 2 worth 10;person p lane 0 loud 0;");
        crop(late, 2, 0, -1);
        crop(late, 3, 10, -1);
    }

    private static void first() {
        NameOrchard x = Due.told("other z;apple a plain at 0 4 ripe 0 worth 5;apple b plain at 0 0 ripe 0 worth 5;"
                + "person p lane 0 loud 0;person q lane 4 loud 0;");
        crop(x, 1, 5, 2);
        crop(x, 2, 10, 2);
        crop(x, 3, 10, -1);
        x.call(0, 2);
        crop(x, 1, 5, 17);
        crop(x, 2, 5, -1);
    }

    private static void loose() {
        NameOrchard x = Due.told("apple w welsh at 0 0 ripe 0 worth 7;apple e plain at 0 2 ripe 0 worth 4;near 1;"
                + "person p lane 0 loud 1;");
        crop(x, 1, 0, -1);
        crop(x, 2, 11, 0);
        x.call(0, 1);
        crop(x, 1, 11, 0);
        NameOrchard y = Due.told("apple w welsh at 0 0 ripe 0 worth 7;apple v plain at 0 0 ripe 2 worth 20;near edits<1;"
                + "person p lane 0 loud 1;");
        crop(y, 3, 27, 0);
        NameOrchard z = Due.told("apple w welsh at 0 0 ripe 0 worth 30;apple v plain at 0 0 ripe 2 worth 20;"
                + "person p lane 0 loud 1;");
        crop(z, 2, 30, 0);
        crop(z, 3, 50, 0);
    }

    private static void twins() {
        NameOrchard x = Due.told("apple a plain at 0 0 ripe 0 worth 3;apple b deaf at 0 11 ripe 1 worth 20;twin a b;"
                + "apple c plain at 0 0 ripe 1 worth 1;person p lane 0 loud 0 not c;");
        crop(x, 1, 3, 0);
        crop(x, 2, 23, -1);
    }

    private static void many() {
        StringBuilder s = new StringBuilder();
        for (char c = 'a'; c < 'k'; c++) {
            s.append("apple ").append(c).append(c).append(" welsh at 0 ").append(c - 'a').append(" ripe ")
                    .append((c - 'a') % 3).append(" worth ").append(10 + c - 'a').append(';');
        }
        for (char c = 'k'; c < 'q'; c++) {
            s.append("other ").append(c).append("a;");
        }
        for (int i = 0; i < 5; i++) {
            s.append("person x").append((char) ('a' + i)).append(" lane ").append(2 * i).append(" loud ")
                    .append(i + 1).append(';');
        }
        NameOrchard x = Due.told(s + "near edits<2;value base+age;");
        Oracle y = new Oracle();
        y.tape.append(s + "near edits<2;value base+age;");
        Due.same("orchard", y.orchard(), 0);
        for (int days = 0; days < 4; days++) {
            crop(x, days, y.crop(days, 0), y.crop(days, 1));
        }
        Due.same("fetch", x.fetch(), y.fetch());
    }

    /** Thirty different calls come ahead of the only one that j hears. */
    private static void manyCalls() {
        StringBuilder s = new StringBuilder();
        for (char c = 'a'; c < 'j'; c++) {
            s.append("apple ").append(c).append(" plain at 0 0 ripe 0 worth 2;");
        }
        s.append("apple j plain at 0 11 ripe 0 worth 99;other ab;other bc;other cd;other de;other ef;other fg;");
        s.append("person p lane 0 loud 0;person q lane 2 loud 1;person r lane 11 loud 0;");
        NameOrchard x = Due.told(s + "near size=2 and edits=1 or edits=0;");
        crop(x, 1, 99, 2 * 16 + 9);
        crop(x, 2, 103, 10);
        crop(x, 3, 107, 10);
        Due.same("not by four", x.fetch(), -1);
        for (int apple = 0; apple < 6; apple++) {
            x.pick(apple);
            x.pass(1);
        }
        Due.same("g, h, i and j", x.fetch(), 4);
    }

    private static void fetch(String what, String text, int due) {
        Due.same("fetch: " + what, Due.told(text).fetch(), due);
    }

    private static void fetching() {
        String p = "person p lane 0 loud 0;";
        fetch("nothing hangs", "person p lane 0 loud 0;", 0);
        fetch("a deaf one", "apple d deaf at 0 0 ripe 0 worth 1;", 0);
        fetch("nobody calls", "apple a plain at 0 0 ripe 0 worth 1;", -1);
        fetch("one", "apple a plain at 0 0 ripe 60 worth 1;" + p, 1);
        fetch("one out of hearing", "apple a plain at 0 1 ripe 0 worth 1;" + p, -1);
        fetch("one and a deaf one", "apple a plain at 0 0 ripe 0 worth 1;apple d deaf at 0 0 ripe 0 worth 1;" + p, 1);
        fetch("a welsh one", "apple a welsh at 0 0 ripe 0 worth 1;" + p, 2);
        fetch("an echo", "apple a plain at 0 2 ripe 0 worth 1;person p lane 0 loud 1;", 2);
        fetch("he can't say it", "apple a plain at 0 0 ripe 0 worth 1;person p lane 0 loud 0 not a;", -1);
        String ab = "apple a plain at 0 0 ripe 0 worth 1;apple b plain at 0 0 ripe 0 worth 1;";
        String cd = "apple c plain at 0 0 ripe 0 worth 1;apple d plain at 0 0 ripe 0 worth 1;";
        fetch("two", ab + p, 2);
        fetch("two twins", ab + "twin a b;" + p, 1);
        fetch("two near", ab + "near edits<2;" + p, 1);
        fetch("four", ab + cd + p, 4);
        fetch("five", ab + cd + "apple e plain at 0 0 ripe 0 worth 1;" + p, -1);
        fetch("five, two of them twins", ab + cd + "apple e plain at 0 0 ripe 0 worth 1;twin e a;" + p, 4);
        fetch("two welsh", "apple a welsh at 0 0 ripe 0 worth 1;apple b welsh at 0 0 ripe 0 worth 1;" + p, 4);
        fetch("two welsh twins", "apple a welsh at 0 0 ripe 0 worth 1;apple b welsh at 0 0 ripe 0 worth 1;twin b a;"
                + p, 2);
        NameOrchard x = Due.told(ab + cd + "apple e plain at 0 0 ripe 0 worth 1;" + p);
        x.pick(2);
        Due.same("as it hangs", x.fetch(), 4);
        x.call(0, 0);
        Due.same("as it hangs then", x.fetch(), 3);
        Due.same("nothing is done", x.count(6), 3);
        NameOrchard y = Due.told("apple a welsh at 0 0 ripe 9 worth 1;other b;person p lane 0 loud 0 not a;");
        Due.same("not by its name", y.fetch(), -1);
        y.christen(0, 1);
        Due.same("by the other one", y.fetch(), 2);
        y.call(0, 1);
        Due.same("loose", y.fetch(), 1);
    }

    private static void fetchingHard() {
        StringBuilder s = new StringBuilder();
        for (char c = 'a'; c < 'k'; c++) {
            s.append("apple ").append(c).append(" welsh at 0 ").append(c - 'a').append(" ripe 0 worth 1;");
        }
        fetch("ten welsh by two people of one sound", s
                + "near 1;person p lane 2 loud 2;person q lane 7 loud 2;", 4);
        fetch("ten welsh by one in the middle", s + "near 1;person p lane 5 loud 5;", 2);
        fetch("ten welsh, one cannot be heard", s + "near 1;person p lane 0 loud 4;", -1);
        fetch("ten welsh, each for itself", s + "person p lane 5 loud 5;", -1);
    }
}
