import java.util.List;
import java.util.NoSuchElementException;
import java.util.Random;

/** Many orchards by chance (from fixed seeds), each call asked of the program and of the oracle. */
public final class OracleTest {
    private static final String[] NAMES = {"tom", "tim", "tam", "jim", "kim", "ann", "anna", "anne", "bill", "jill",
        "will", "jack", "john", "joan", "jo", "llew", "llewelyn", "wynn", "beth", "bess", "edits", "base", "age",
        "start", "a", "zz", "o", "size", "rhyme", "abcdefgh", "bcdefgha", "hgfedcba"};
    /** Names so much alike that many are near. */
    private static final String[] ALIKE = {"tom", "tim", "tam", "tem", "jim", "kim", "jam", "ham", "sam", "pam", "tip",
        "tin", "ten", "to", "tomy", "timy", "am", "ate", "tama", "kima", "jima", "om", "im", "mot", "mit", "t"};
    private static final String[] SORTS = {"plain", "plain", "plain", "alias", "welsh", "deaf"};

    private final Random chance;
    private final NameOrchard x = new NameOrchard();
    private final Oracle y = new Oracle();
    private final StringBuilder log = new StringBuilder();
    private int calls;
    private int wrong;

    private OracleTest(long seed) {
        chance = new Random(seed);
    }

    private void due(String call, long got, long want) {
        calls++;
        log.append(call).append(" => ").append(want).append('\n');
        if (got != want) {
            wrong++;
            System.out.println(log);
            System.out.println("the last one answered " + got);
        }
    }

    private int below(int m) {
        return chance.nextInt(m);
    }

    private String[] shuffled() {
        String[] n = below(2) == 0 ? NAMES.clone() : ALIKE.clone();
        for (int i = n.length - 1; i > 0; i--) {
            int j = below(i + 1);
            String t = n[i];
            n[i] = n[j];
            n[j] = t;
        }
        return n;
    }

    private String part(String[] facts, int depth) {
        int kind = below(depth < 4 ? 8 : 5);
        if (kind < 3) {
            return facts[below(facts.length)];
        }
        if (kind < 5) {
            return "" + below(below(5) == 0 ? 9999 : 6);
        }
        return kind < 6 ? "not " + part(facts, depth + 1) : "(" + law(facts, depth + 1) + ")";
    }

    private String law(String[] facts, int depth) {
        String[] signs = {"+", "-", "*", " and ", " or ", "<", "="};
        StringBuilder s = new StringBuilder(part(facts, depth));
        boolean compared = false;
        for (int i = below(4); i > 0; i--) {
            String sign = signs[below(7)];
            if (sign.equals(" and ") || sign.equals(" or ")) {
                compared = false;
            } else if (sign.equals("<") || sign.equals("=")) {
                if (compared) {
                    continue;
                }
                compared = true;
            }
            s.append(sign).append(part(facts, depth));
        }
        return s.toString();
    }

    private String nearLaw() {
        String[] good = {"edits<2", "edits<3", "edits<2 or 1<rhyme", "0<start", "rhyme=2 or edits=0", "edits<size",
            "not(2<edits)and 2<size", "0<start+rhyme", "edits<4", "1"};
        return below(3) == 0 ? law(new String[] {"edits", "start", "rhyme", "size"}, 0) : good[below(good.length)];
    }

    private String valueLaw() {
        String[] good = {"base+age*3", "base*(0-1<age)", "base-age", "base*base", "base-age*age", "age*30", "base"};
        return below(3) == 0 ? law(new String[] {"base", "age"}, 0) : good[below(good.length)];
    }

    private String orchard(boolean small) {
        StringBuilder s = new StringBuilder();
        String[] n = shuffled();
        int used = 0;
        int apples = below(12) == 0 ? 0 : 1 + below(small ? 6 : 10);
        int others = below(small ? 3 : 7);
        int people = below(10) == 0 ? 0 : 1 + below(small ? 3 : 5);
        StringBuilder named = new StringBuilder();
        String[] fruit = new String[apples];
        String[] sounds = new String[apples + others];
        int f = 0;
        int k = 0;
        while (k < sounds.length) {
            String name = n[used++];
            boolean apple = f < apples && (k - f >= others || below(3) > 0);
            if (apple) {
                fruit[f++] = name;
                s.append("apple " + name + " " + SORTS[below(6)] + " at " + below(12) + " " + below(12) + " ripe "
                        + below(below(4) == 0 ? 61 : 5) + " worth " + below(100) + ";");
            } else {
                s.append("other " + name + ";");
            }
            sounds[k++] = name;
        }
        String[] left = fruit.clone();
        for (int i = below(3); i > 0 && apples > 1; i--) {
            int a = below(apples);
            int b = below(apples);
            if (a != b && left[a] != null && left[b] != null) {
                s.append("twin " + left[a] + "\n" + left[b] + ";");
                left[a] = null;
                left[b] = null;
            }
        }
        for (int i = 0; i < people; i++) {
            s.append("person " + n[used++] + " lane " + below(12) + " loud " + below(7));
            s.append(sounds.length > 0 && below(3) == 0 ? " not " + sounds[below(sounds.length)] + ";" : ";");
        }
        for (int i = 0; i < sounds.length && i < 6; i++) {
            if (below(2) == 0) {
                s.append("stranger " + sounds[i] + " " + below(11) + ";");
            }
        }
        for (int i = below(5); i > 0 && apples > 0; i--) {
            s.append("page");
            int skip = below(apples);
            for (int a = 0; a < apples; a++) {
                int b = (a * (below(1) + 1) + skip) % apples;
                if (a == 0 || below(2) == 0) {
                    s.append(" " + fruit[b]);
                }
            }
            s.append(";");
        }
        for (int i = below(5); i > 0 && sounds.length > 1; i--) {
            int a = below(sounds.length);
            int b = (a + 1 + below(sounds.length - 1)) % sounds.length;
            s.append("bann " + sounds[a] + " " + sounds[b] + ";");
        }
        if (below(5) > 0) {
            s.append("near " + nearLaw() + ";");
        }
        if (below(5) > 0) {
            s.append("value " + valueLaw() + ";");
        }
        return s.toString();
    }

    /** Something is put in, left out or changed, so that faults of all kinds come up. */
    private String spoilt(String text) {
        String[] bits = {"apple", "twin", "other", "person", "stranger", "page", "bann", "near", "value", "call",
            "pick", "day", "not", "and", "or", "tom", "jill", "12", "7", "100", "61", "00001", "9999", "(", ")", "<",
            "=", "+", "-", "*", ";", "edits", "base", "plain", "Q", "abcdefghi", "#", "((((((", "not not not not not"};
        StringBuilder s = new StringBuilder(text);
        for (int i = 1 + below(2); i > 0; i--) {
            int at = below(s.length() + 1);
            int kind = below(6);
            if (kind > 3) {
                swapTokens(s, kind == 4);
            } else if (kind == 0 && at < s.length()) {
                s.deleteCharAt(at);
            } else if (kind == 1 && at < s.length()) {
                s.setCharAt(at, bits[below(bits.length)].charAt(0));
            } else if (kind == 2) {
                s.insert(at, " " + bits[below(bits.length)] + " ");
            } else {
                int end = s.indexOf(" ", at);
                int close = s.indexOf(" ", end + 1);
                if (end >= 0 && close > end) {
                    s.replace(end + 1, close, bits[below(bits.length)]);
                }
            }
        }
        return s.toString();
    }

    /** Puts a word (or a number) of the text in the place of another one. */
    private void swapTokens(StringBuilder s, boolean word) {
        List<Oracle.Tok> some = Oracle.cut(s.toString());
        some.removeIf(t -> word ? !t.name() : !t.number());
        if (some.size() < 2) {
            return;
        }
        Oracle.Tok a = some.get(below(some.size()));
        Oracle.Tok b = some.get(below(some.size()));
        s.replace(a.place(), a.place() + a.text().length(), b.text());
    }

    private String lines() {
        StringBuilder s = new StringBuilder();
        for (int i = below(44); i > 0; i--) {
            int kind = below(8);
            if (kind < 4 && !y.g.people.isEmpty() && !y.g.sounds.isEmpty()) {
                s.append("call " + y.g.people.get(below(y.g.people.size())).name + " "
                        + y.g.sounds.get(below(y.g.sounds.size())) + ";");
            } else if (kind < 6 && !y.g.apples.isEmpty()) {
                s.append("pick " + y.g.apples.get(below(y.g.apples.size())).name + ";");
            } else {
                s.append("day;");
            }
        }
        return s.toString();
    }

    private void feed(String text) {
        for (int i = 0; i < text.length(); i += 24) {
            long a = Due.eight(text, i);
            long b = Due.eight(text, i + 8);
            long c = Due.eight(text, i + 16);
            due("feed " + text.substring(i, Math.min(text.length(), i + 24)), x.feed(a, b, c), y.feed(a, b, c));
        }
    }

    private void tellOrchard(String text) {
        feed(text);
        due("orchard()", x.orchard(), y.orchard());
    }

    private void tellDays(String text) {
        feed(text);
        due("days()", x.days(), y.days());
    }

    private int some(int many) {
        int roll = below(40);
        return roll == 0 ? -1 : roll == 1 ? many : roll == 2 ? chance.nextInt() : many > 0 ? below(many) : 0;
    }

    private void hand() {
        int p = some(y.g.people.size());
        int s = some(y.g.sounds.size());
        int a = some(y.g.apples.size());
        switch (below(9)) {
            case 0, 1, 2 -> due("call " + p + " " + s, x.call(p, s), y.call(p, s));
            case 3 -> due("pick " + a, x.pick(a), y.pick(a));
            case 4 -> due("christen " + a + " " + s, x.christen(a, s) ? 1 : 0, y.christen(a, s) ? 1 : 0);
            case 5 -> {
                int m = below(6) == 0 ? below(34) - 1 : 1;
                due("pass " + m, x.pass(m), y.pass(m));
            }
            case 6 -> due("undo", x.undo() ? 1 : 0, y.undo() ? 1 : 0);
            case 7 -> {
                int m = below(6) - 1;
                boolean back = below(2) == 0;
                due("mark " + m + back, x.mark(m, back) ? 1 : 0, y.mark(m, back) ? 1 : 0);
            }
            default -> due("fetch", x.fetch(), y.fetch());
        }
    }

    private void ask() {
        int p = some(y.g.people.size());
        int s = some(y.g.sounds.size());
        int t = some(y.g.sounds.size());
        int a = some(y.g.apples.size());
        boolean b = below(2) == 0;
        switch (below(12)) {
            case 0 -> {
                int w = below(12) - 1;
                due("apple " + a + " " + w, x.apple(a, w), y.apple(a, w));
            }
            case 1 -> {
                int w = below(6) - 1;
                due("near " + s + " " + t + " " + w, x.near(s, t, w), y.near(s, t, w));
            }
            case 2 -> due("says " + p + " " + s, x.says(p, s), y.says(p, s));
            case 3, 4 -> due("falls " + p + " " + s, x.falls(p, s), y.falls(p, s));
            case 5 -> due("lies " + a + b, x.lies(a, b) ? 1 : 0, y.lies(a, b) ? 1 : 0);
            case 6, 7 -> {
                for (int w = -1; w < 5; w++) {
                    due("called " + w, x.called(w), y.called(w));
                }
            }
            case 8 -> {
                boolean n = below(8) == 0 ? b : y.sound(s) && y.sound(t)
                        && (Oracle.edits(y.g.sounds.get(s), y.g.sounds.get(t)) < 3);
                due("tell " + s + " " + t + n, x.tell(s, t, n) ? 1 : 0, y.tell(s, t, n) ? 1 : 0);
            }
            case 9 -> {
                for (int w = -1; w < 4; w++) {
                    due("laws " + w, x.laws(w), y.laws(w));
                }
            }
            case 10 -> {
                for (int w = -1; w < 4; w++) {
                    due("judged " + w, x.judged(w), y.judged(w));
                }
            }
            default -> {
                for (int w = -1; w < 17; w++) {
                    due("count " + w, x.count(w), y.count(w));
                }
            }
        }
    }

    private void look(boolean small) {
        int lane = below(15) == 0 ? below(15) - 1 : below(12);
        int loud = below(15) == 0 ? below(10) - 1 : below(7);
        int many = below(33);
        int a = some(y.g.apples.size());
        switch (below(8)) {
            case 0 -> {
                int d = below(small ? 6 : 4) - 1;
                for (int w = -1; w < 3; w++) {
                    due("crop " + d + " " + w, x.crop(d, w), y.crop(d, w));
                }
            }
            case 1 -> due("loss " + many, x.loss(many), y.loss(many));
            case 2 -> due("best " + a + " " + many, x.best(a, many), y.best(a, many));
            case 3 -> {
                int page = some(4);
                due("thief " + page + " " + lane + " " + loud, thief(page, lane, loud), due(page, lane, loud));
            }
            case 4 -> due("hide " + lane + " " + loud, x.hide(lane, loud), y.hide(lane, loud));
            case 5 -> {
                for (int w = -1; w < 6; w++) {
                    due("banns " + lane + " " + loud + " " + w, x.banns(lane, loud, w), y.banns(lane, loud, w));
                }
            }
            default -> {
                int seed = some(10000);
                int days = below(64) - 1;
                for (int w = -1; w < 4; w++) {
                    due("years " + seed + " " + days + " " + w, x.years(seed, days, w), y.years(seed, days, w));
                }
            }
        }
    }

    private int thief(int page, int lane, int loud) {
        try {
            return x.thief(page, lane, loud);
        } catch (NoSuchElementException e) {
            return -77;
        }
    }

    private int due(int page, int lane, int loud) {
        try {
            return y.thief(page, lane, loud);
        } catch (NoSuchElementException e) {
            return -77;
        }
    }

    private int run(boolean small) {
        for (int round = 0; round < 3 && calls < 400 && wrong == 0; round++) {
            String text = orchard(small);
            if (below(3) == 0) {
                text = spoilt(text);
            }
            tellOrchard(text);
            tellDays(below(4) == 0 ? spoilt(lines()) : lines());
            for (int i = 0; i < 25 && calls < 480 && wrong == 0; i++) {
                hand();
                if (below(2) == 0) {
                    ask();
                }
                if (below(3) == 0) {
                    look(small);
                }
            }
        }
        return wrong;
    }

    public static void main(String[] args) {
        int runs = args.length > 0 ? Integer.parseInt(args[0]) : 1500;
        long base = args.length > 1 ? Long.parseLong(args[1]) : 0;
        int wrong = 0;
        for (int i = 0; i < runs && wrong == 0; i++) {
            wrong = new OracleTest(base + i).run(i % 4 != 0);
        }
        if (wrong > 0) {
            System.exit(1);
        }
    }
}
