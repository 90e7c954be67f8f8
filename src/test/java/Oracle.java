import java.util.ArrayList;
import java.util.Arrays;
import java.util.HashMap;
import java.util.HashSet;
import java.util.List;
import java.util.Map;
import java.util.NoSuchElementException;
import java.util.Set;

/**
 * The document once more, as plainly as can be: lists, texts and recursion, all tried out.
 * It shares nothing with the program, so that both are wrong together only where both misread.
 */
final class Oracle {
    static final List<String> KEYWORDS = List.of("apple", "at", "ripe", "worth", "twin", "other", "person", "lane",
            "loud", "stranger", "page", "bann", "near", "value", "call", "pick", "day", "plain", "alias", "welsh",
            "deaf", "not", "and", "or");
    static final List<String> SORTS = List.of("plain", "alias", "welsh", "deaf");

    static final class Fault extends RuntimeException {
        private static final long serialVersionUID = 1;
        final int code;

        Fault(int kind, int place) {
            code = kind + 16 * place;
        }
    }

    interface Expr {
        int of(Map<String, Integer> facts);
    }

    record Tok(String text, int place) {
        boolean word() {
            return text.matches("[a-z]{1,8}");
        }

        boolean number() {
            return text.matches("[0-9]{1,4}");
        }

        boolean name() {
            return word() && !KEYWORDS.contains(text);
        }
    }

    static final class Apple {
        String name;
        String sort;
        int across;
        int row;
        int ripe;
        int worth;
        int sound;
        int twin = -1;
    }

    static final class Person {
        String name;
        int lane;
        int loud;
        String mute = "";
    }

    static final class Garden {
        List<Apple> apples = new ArrayList<>();
        List<String> sounds = new ArrayList<>();
        List<Person> people = new ArrayList<>();
        List<int[]> strangers = new ArrayList<>();
        List<List<Integer>> pages = new ArrayList<>();
        List<int[]> banns = new ArrayList<>();
        Expr near;
        Expr value;

        int appleOf(String name) {
            for (int i = 0; i < apples.size(); i++) {
                if (apples.get(i).name.equals(name)) {
                    return i;
                }
            }
            return -1;
        }

        int personOf(String name) {
            for (int i = 0; i < people.size(); i++) {
                if (people.get(i).name.equals(name)) {
                    return i;
                }
            }
            return -1;
        }
    }

    static final class Now implements Cloneable {
        boolean[] hang = new boolean[10];
        boolean[] loose = new boolean[10];
        int[] sound = new int[10];
        int day;
        int had;
        boolean picked;

        Now twin() {
            Now n = new Now();
            n.hang = hang.clone();
            n.loose = loose.clone();
            n.sound = sound.clone();
            n.day = day;
            n.had = had;
            n.picked = picked;
            return n;
        }
    }

    static final class Mark {
        Now now;
        List<int[]> lines;
        Map<Integer, Boolean> lies;
        List<int[]> tellings;
    }

    StringBuilder tape = new StringBuilder();
    Garden g = new Garden();
    Now now = new Now();
    List<int[]> lines = new ArrayList<>();
    Map<Integer, Boolean> lies = new HashMap<>();
    List<int[]> tellings = new ArrayList<>();
    List<Now> undos = new ArrayList<>();
    Mark[] marks = new Mark[4];

    // ---- reading

    List<Tok> toks;
    int pos;

    static List<Tok> cut(String s) {
        List<Tok> out = new ArrayList<>();
        int i = 0;
        while (i < s.length()) {
            char c = s.charAt(i);
            int from = i;
            if (c == ' ' || c == '\n') {
                i++;
                continue;
            }
            if (c >= 'a' && c <= 'z') {
                while (i < s.length() && s.charAt(i) >= 'a' && s.charAt(i) <= 'z') {
                    i++;
                }
            } else if (c >= '0' && c <= '9') {
                while (i < s.length() && s.charAt(i) >= '0' && s.charAt(i) <= '9') {
                    i++;
                }
            } else {
                i++;
            }
            out.add(new Tok(s.substring(from, i), from));
        }
        out.add(new Tok("", s.length()));
        return out;
    }

    Tok peek() {
        return toks.get(pos);
    }

    Tok next() {
        return toks.get(pos++);
    }

    void need(boolean good, int kind) {
        if (!good) {
            throw new Fault(kind, peek().place);
        }
    }

    void word(String w) {
        need(peek().text.equals(w), 1);
        pos++;
    }

    int num(int most) {
        need(peek().number(), 1);
        need(Integer.parseInt(peek().text) <= most, 4);
        return Integer.parseInt(next().text);
    }

    String fresh(Garden n) {
        need(peek().name(), 1);
        need(!n.sounds.contains(peek().text) && n.personOf(peek().text) < 0, 3);
        return next().text;
    }

    int appleHere(Garden n) {
        need(peek().name(), 1);
        need(n.appleOf(peek().text) >= 0, 2);
        return n.appleOf(peek().text);
    }

    int soundHere(Garden n) {
        need(peek().name(), 1);
        need(n.sounds.contains(peek().text), 2);
        return n.sounds.indexOf(peek().text);
    }

    Garden parse(String s) {
        toks = cut(s);
        pos = 0;
        Garden n = new Garden();
        while (!peek().text.isEmpty()) {
            switch (peek().text) {
                case "apple" -> {
                    need(n.apples.size() < 10, 5);
                    pos++;
                    Apple a = new Apple();
                    a.name = fresh(n);
                    need(SORTS.contains(peek().text), 1);
                    a.sort = next().text;
                    word("at");
                    a.across = num(11);
                    a.row = num(11);
                    word("ripe");
                    a.ripe = num(60);
                    word("worth");
                    a.worth = num(99);
                    word(";");
                    a.sound = n.sounds.size();
                    n.sounds.add(a.name);
                    n.apples.add(a);
                }
                case "twin" -> {
                    pos++;
                    int a = appleHere(n);
                    need(n.apples.get(a).twin < 0, 3);
                    pos++;
                    int b = appleHere(n);
                    need(a != b && n.apples.get(b).twin < 0, 3);
                    pos++;
                    word(";");
                    n.apples.get(a).twin = b;
                    n.apples.get(b).twin = a;
                }
                case "other" -> {
                    need(n.sounds.size() - n.apples.size() < 6, 5);
                    pos++;
                    String f = fresh(n);
                    word(";");
                    n.sounds.add(f);
                }
                case "person" -> {
                    need(n.people.size() < 5, 5);
                    pos++;
                    Person p = new Person();
                    p.name = fresh(n);
                    word("lane");
                    p.lane = num(11);
                    word("loud");
                    p.loud = num(6);
                    if (peek().text.equals("not")) {
                        pos++;
                        p.mute = n.sounds.get(soundHere(n)).substring(0, 1);
                        pos++;
                    }
                    word(";");
                    n.people.add(p);
                }
                case "stranger" -> {
                    need(n.strangers.size() < 6, 5);
                    pos++;
                    int so = soundHere(n);
                    for (int[] st : n.strangers) {
                        need(st[0] != so, 3);
                    }
                    pos++;
                    int ch = num(10);
                    word(";");
                    n.strangers.add(new int[] {so, ch});
                }
                case "page" -> {
                    need(n.pages.size() < 4, 5);
                    pos++;
                    List<Integer> page = new ArrayList<>();
                    do {
                        int a = appleHere(n);
                        need(!page.contains(a), 3);
                        pos++;
                        page.add(a);
                    } while (!peek().text.equals(";"));
                    pos++;
                    n.pages.add(page);
                }
                case "bann" -> {
                    need(n.banns.size() < 4, 5);
                    pos++;
                    int a = soundHere(n);
                    pos++;
                    int b = soundHere(n);
                    need(a != b, 3);
                    pos++;
                    word(";");
                    n.banns.add(new int[] {a, b});
                }
                case "near" -> {
                    need(n.near == null, 3);
                    pos++;
                    n.near = expr(List.of("edits", "start", "rhyme", "size"), 0);
                    word(";");
                }
                case "value" -> {
                    need(n.value == null, 3);
                    pos++;
                    n.value = expr(List.of("base", "age"), 0);
                    word(";");
                }
                default -> need(false, 1);
            }
        }
        if (n.near == null) {
            n.near = f -> f.get("edits") == 0 ? 1 : 0;
        }
        if (n.value == null) {
            n.value = f -> f.get("age") >= 0 ? f.get("base") : 0;
        }
        return n;
    }

    Expr expr(List<String> facts, int depth) {
        Expr left = test(facts, depth);
        while (peek().text.equals("and") || peek().text.equals("or")) {
            boolean and = next().text.equals("and");
            Expr a = left;
            Expr b = test(facts, depth);
            left = f -> {
                boolean x = a.of(f) != 0;
                boolean y = b.of(f) != 0;
                return (and ? x && y : x || y) ? 1 : 0;
            };
        }
        return left;
    }

    Expr test(List<String> facts, int depth) {
        Expr a = sum(facts, depth);
        if (peek().text.equals("<")) {
            pos++;
            Expr b = sum(facts, depth);
            return f -> a.of(f) < b.of(f) ? 1 : 0;
        }
        if (peek().text.equals("=")) {
            pos++;
            Expr b = sum(facts, depth);
            return f -> a.of(f) == b.of(f) ? 1 : 0;
        }
        return a;
    }

    Expr sum(List<String> facts, int depth) {
        Expr left = product(facts, depth);
        while (peek().text.equals("+") || peek().text.equals("-")) {
            boolean plus = next().text.equals("+");
            Expr a = left;
            Expr b = product(facts, depth);
            left = f -> plus ? a.of(f) + b.of(f) : a.of(f) - b.of(f);
        }
        return left;
    }

    Expr product(List<String> facts, int depth) {
        Expr left = part(facts, depth);
        while (peek().text.equals("*")) {
            pos++;
            Expr a = left;
            Expr b = part(facts, depth);
            left = f -> a.of(f) * b.of(f);
        }
        return left;
    }

    Expr part(List<String> facts, int depth) {
        String t = peek().text;
        need(peek().number() || facts.contains(t) || t.equals("not") || t.equals("("), 1);
        need(depth < 5, 5);
        boolean number = peek().number();
        pos++;
        if (number) {
            int v = Integer.parseInt(t);
            return f -> v;
        }
        if (t.equals("not")) {
            Expr a = part(facts, depth + 1);
            return f -> a.of(f) == 0 ? 1 : 0;
        }
        if (t.equals("(")) {
            Expr a = expr(facts, depth + 1);
            word(")");
            return a;
        }
        return f -> f.get(t);
    }

    List<int[]> parseDays(String s) {
        toks = cut(s);
        pos = 0;
        List<int[]> out = new ArrayList<>();
        while (!peek().text.isEmpty()) {
            String w = peek().text;
            need(w.equals("call") || w.equals("pick") || w.equals("day"), 1);
            need(out.size() < 40, 5);
            pos++;
            int[] line = {w.charAt(0), 0, 0};
            if (w.equals("call")) {
                need(peek().name(), 1);
                need(g.personOf(peek().text) >= 0, 2);
                line[1] = g.personOf(next().text);
                line[2] = soundHere(g);
                pos++;
            } else if (w.equals("pick")) {
                line[1] = appleHere(g);
                pos++;
            }
            word(";");
            out.add(line);
        }
        return out;
    }

    // ---- the words

    static int edits(String a, String b) {
        if (a.isEmpty() || b.isEmpty()) {
            return a.length() + b.length();
        }
        int[][] t = new int[a.length() + 1][b.length() + 1];
        for (int i = 0; i <= a.length(); i++) {
            for (int j = 0; j <= b.length(); j++) {
                if (i == 0 || j == 0) {
                    t[i][j] = i + j;
                } else {
                    int swap = t[i - 1][j - 1] + (a.charAt(i - 1) == b.charAt(j - 1) ? 0 : 1);
                    t[i][j] = Math.min(swap, Math.min(t[i - 1][j], t[i][j - 1]) + 1);
                }
            }
        }
        return t[a.length()][b.length()];
    }

    static int start(String a, String b) {
        int n = 0;
        while (n < a.length() && n < b.length() && a.charAt(n) == b.charAt(n)) {
            n++;
        }
        return n;
    }

    static int rhyme(String a, String b) {
        return start(new StringBuilder(a).reverse().toString(), new StringBuilder(b).reverse().toString());
    }

    boolean nearTo(int called, int sound) {
        String a = g.sounds.get(called);
        String b = g.sounds.get(sound);
        return g.near.of(Map.of("edits", edits(a, b), "start", start(a, b), "rhyme", rhyme(a, b), "size",
                a.length())) != 0;
    }

    int valueOf(int apple, int day) {
        Apple a = g.apples.get(apple);
        int v = g.value.of(Map.of("base", a.worth, "age", day - a.ripe));
        return v < 0 ? 0 : v > 999 ? 999 : v;
    }

    boolean meant(Now n, int apple, int called) {
        if (g.apples.get(apple).sort.equals("alias")) {
            return called == n.sound[apple];
        }
        return nearTo(called, n.sound[apple]);
    }

    /** Which fall; the standing changes. */
    Set<Integer> cry(Now n, int lane, int loud, int called) {
        Set<Integer> fallen = new HashSet<>();
        Set<Integer> looser = new HashSet<>();
        for (int i = 0; i < g.apples.size(); i++) {
            Apple a = g.apples.get(i);
            int far = Math.abs(a.row - lane);
            if (!n.hang[i] || a.sort.equals("deaf") || !meant(n, i, called) || far > 2 * loud) {
                continue;
            }
            boolean echo = far > loud;
            if (n.loose[i] || !echo && !a.sort.equals("welsh")) {
                fallen.add(i);
            } else {
                looser.add(i);
            }
        }
        for (int i : new ArrayList<>(fallen)) {
            int t = g.apples.get(i).twin;
            if (t >= 0 && n.hang[t]) {
                fallen.add(t);
            }
        }
        for (int i : looser) {
            n.loose[i] = true;
        }
        for (int i : fallen) {
            n.hang[i] = false;
            n.loose[i] = false;
            n.had += valueOf(i, n.day);
        }
        return fallen;
    }

    static int bits(Set<Integer> s) {
        int b = 0;
        for (int i : s) {
            b |= 1 << i;
        }
        return b;
    }

    boolean sound(int s) {
        return s >= 0 && s < g.sounds.size();
    }

    boolean hasApple(int a) {
        return a >= 0 && a < g.apples.size();
    }

    boolean hasPerson(int p) {
        return p >= 0 && p < g.people.size();
    }

    boolean canSay(int p, int s) {
        if (!hasPerson(p) || !sound(s)) {
            return false;
        }
        String mute = g.people.get(p).mute;
        return mute.isEmpty() || !g.sounds.get(s).contains(mute);
    }

    Set<Integer> cry(Now n, int p, int s) {
        return cry(n, g.people.get(p).lane, g.people.get(p).loud, s);
    }

    Now beginning() {
        Now n = new Now();
        for (int i = 0; i < g.apples.size(); i++) {
            n.hang[i] = true;
            n.sound[i] = g.apples.get(i).sound;
        }
        return n;
    }

    // ---- the face

    Oracle() {
        g = parse("");
        now = beginning();
    }

    int feed(long a, long b, long c) {
        for (long v : new long[] {a, b, c}) {
            for (int i = 7; i >= 0; i--) {
                int s = (int) (v >>> 8 * i) & 255;
                if ((s == 10 || s >= 32 && s <= 126) && tape.length() < 1000) {
                    tape.append((char) s);
                }
            }
        }
        return tape.length();
    }

    int orchard() {
        String s = tape.toString();
        tape.setLength(0);
        try {
            g = parse(s);
        } catch (Fault f) {
            return f.code;
        }
        now = beginning();
        lines = new ArrayList<>();
        lies = new HashMap<>();
        tellings = new ArrayList<>();
        undos = new ArrayList<>();
        marks = new Mark[4];
        return 0;
    }

    int days() {
        String s = tape.toString();
        tape.setLength(0);
        try {
            lines = parseDays(s);
        } catch (Fault f) {
            return f.code;
        }
        return 0;
    }

    int apple(int apple, int what) {
        if (!hasApple(apple)) {
            return -1;
        }
        Apple a = g.apples.get(apple);
        return switch (what) {
            case 0 -> SORTS.indexOf(a.sort);
            case 1 -> a.across;
            case 2 -> a.row;
            case 3 -> a.ripe;
            case 4 -> a.worth;
            case 5 -> now.hang[apple] ? 1 : 0;
            case 6 -> now.sound[apple];
            case 7 -> now.loose[apple] ? 1 : 0;
            case 8 -> a.twin;
            case 9 -> valueOf(apple, now.day);
            default -> -1;
        };
    }

    int near(int called, int sound, int what) {
        if (!sound(called) || !sound(sound)) {
            return -1;
        }
        String a = g.sounds.get(called);
        String b = g.sounds.get(sound);
        return switch (what) {
            case 0 -> edits(a, b);
            case 1 -> start(a, b);
            case 2 -> rhyme(a, b);
            case 3 -> nearTo(called, sound) ? 1 : 0;
            default -> -1;
        };
    }

    int says(int p, int s) {
        return !hasPerson(p) || !sound(s) ? -1 : canSay(p, s) ? 1 : 0;
    }

    int falls(int p, int s) {
        return canSay(p, s) ? bits(cry(now.twin(), p, s)) : -1;
    }

    void keep() {
        undos.add(now.twin());
        if (undos.size() > 16) {
            undos.remove(0);
        }
    }

    int call(int p, int s) {
        if (!canSay(p, s)) {
            return -1;
        }
        keep();
        return bits(cry(now, p, s));
    }

    boolean take(Now n, int apple) {
        if (!n.hang[apple] || n.picked) {
            return false;
        }
        n.hang[apple] = false;
        n.loose[apple] = false;
        n.had += valueOf(apple, n.day);
        n.picked = true;
        return true;
    }

    int pick(int apple) {
        if (!hasApple(apple) || !now.hang[apple] || now.picked) {
            return -1;
        }
        keep();
        take(now, apple);
        return valueOf(apple, now.day);
    }

    boolean other(int apple, int sound) {
        for (int i = 0; i < g.apples.size(); i++) {
            if (i != apple && now.hang[i] && now.sound[i] == sound) {
                return true;
            }
        }
        return false;
    }

    boolean christen(int apple, int sound) {
        if (!hasApple(apple) || !sound(sound) || !now.hang[apple] || now.day >= g.apples.get(apple).ripe
                || now.sound[apple] == sound || other(apple, sound)) {
            return false;
        }
        keep();
        now.sound[apple] = sound;
        return true;
    }

    void morrow(Now n) {
        n.day++;
        n.picked = false;
    }

    int pass(int many) {
        if (many < 1 || many > 30) {
            return -1;
        }
        keep();
        for (int i = 0; i < many; i++) {
            morrow(now);
        }
        return now.day;
    }

    boolean undo() {
        if (undos.isEmpty()) {
            return false;
        }
        now = undos.remove(undos.size() - 1);
        return true;
    }

    int judged(int what) {
        if (what < 0 || what > 2) {
            return -2;
        }
        Now n = beginning();
        int bad = -1;
        int green = -1;
        for (int i = 0; i < lines.size(); i++) {
            int[] l = lines.get(i);
            boolean can = true;
            if (l[0] == 'c') {
                can = canSay(l[1], l[2]);
                if (can) {
                    for (int f : cry(n, l[1], l[2])) {
                        if (n.day < g.apples.get(f).ripe && green < 0) {
                            green = i;
                        }
                    }
                }
            } else if (l[0] == 'p') {
                can = take(n, l[1]);
            } else {
                morrow(n);
            }
            if (!can && bad < 0) {
                bad = i;
            }
        }
        return what == 0 ? bad : what == 1 ? green : n.had;
    }

    int most(Now n, int left, Map<String, Integer> known) {
        if (left == 0) {
            return 0;
        }
        String key = left + Arrays.toString(n.hang) + Arrays.toString(n.loose);
        if (known.containsKey(key)) {
            return known.get(key);
        }
        int best = 0;
        for (int c = -1; c < g.people.size() * 16; c++) {
            Integer w = by(n, c, left, known);
            if (w != null && w > best) {
                best = w;
            }
        }
        known.put(key, best);
        return best;
    }

    Integer by(Now n, int c, int left, Map<String, Integer> known) {
        Now m = n.twin();
        if (c >= 0) {
            if (!canSay(c / 16, c % 16)) {
                return null;
            }
            cry(m, c / 16, c % 16);
        }
        int won = m.had - n.had;
        morrow(m);
        return won + most(m, left - 1, known);
    }

    int crop(int many, int what) {
        if (many < 0 || many > 3 || what < 0 || what > 1) {
            return -2;
        }
        if (many == 0) {
            return what == 0 ? 0 : -1;
        }
        Map<String, Integer> known = new HashMap<>();
        int best = -1;
        int first = -1;
        for (int c = -1; c < g.people.size() * 16; c++) {
            Integer w = by(now, c, many, known);
            if (w != null && w > best) {
                best = w;
                first = c;
            }
        }
        return what == 0 ? best : first;
    }

    boolean allDown(Now n) {
        for (int i = 0; i < g.apples.size(); i++) {
            if (n.hang[i] && !g.apples.get(i).sort.equals("deaf")) {
                return false;
            }
        }
        return true;
    }

    int fetch() {
        List<Now> front = new ArrayList<>();
        front.add(now.twin());
        if (allDown(now)) {
            return 0;
        }
        Set<String> met = new HashSet<>();
        for (int n = 1; n <= 4; n++) {
            List<Now> next = new ArrayList<>();
            for (Now f : front) {
                for (int c = 0; c < g.people.size() * 16; c++) {
                    if (!canSay(c / 16, c % 16)) {
                        continue;
                    }
                    Now m = f.twin();
                    cry(m, c / 16, c % 16);
                    if (allDown(m)) {
                        return n;
                    }
                    if (met.add(Arrays.toString(m.hang) + Arrays.toString(m.loose))) {
                        next.add(m);
                    }
                }
            }
            front = next;
        }
        return -1;
    }

    boolean lies(int apple, boolean there) {
        if (!hasApple(apple)) {
            return false;
        }
        lies.put(apple, there);
        return true;
    }

    int called(int what) {
        List<int[]> fits = new ArrayList<>();
        for (int p = 0; p < g.people.size(); p++) {
            for (int s = 0; s < g.sounds.size(); s++) {
                if (!canSay(p, s)) {
                    continue;
                }
                Set<Integer> f = cry(now.twin(), p, s);
                boolean good = true;
                for (Map.Entry<Integer, Boolean> e : lies.entrySet()) {
                    good &= f.contains(e.getKey()) == e.getValue();
                }
                if (good) {
                    fits.add(new int[] {p, s, bits(f)});
                }
            }
        }
        if (what == 0) {
            return fits.size();
        }
        if (what < 0 || what > 3 || fits.isEmpty()) {
            return -1;
        }
        int bits = 0;
        if (what < 3) {
            for (int[] f : fits) {
                bits |= 1 << f[what == 1 ? 1 : 0];
            }
            return bits;
        }
        int best = -1;
        int most = 0;
        for (int a = 0; a < g.apples.size(); a++) {
            if (!now.hang[a] || lies.containsKey(a)) {
                continue;
            }
            int by = 0;
            for (int[] f : fits) {
                by += f[2] >> a & 1;
            }
            int lesser = Math.min(by, fits.size() - by);
            if (lesser > most) {
                most = lesser;
                best = a;
            }
        }
        return best;
    }

    boolean tell(int called, int sound, boolean near) {
        if (!sound(called) || !sound(sound) || tellings.size() >= 12) {
            return false;
        }
        tellings.add(new int[] {called, sound, near ? 1 : 0});
        return true;
    }

    int laws(int what) {
        List<int[]> good = new ArrayList<>();
        for (int a = 0; a <= 4; a++) {
            for (int b = 1; b <= 8; b++) {
                boolean fits = true;
                for (int[] t : tellings) {
                    String x = g.sounds.get(t[0]);
                    String y = g.sounds.get(t[1]);
                    boolean near = !(edits(x, y) > a && rhyme(x, y) < b);
                    fits &= near == (t[2] != 0);
                }
                if (fits) {
                    good.add(new int[] {a, b});
                }
            }
        }
        if (what == 0) {
            return good.size();
        }
        if (good.isEmpty() || what < 0 || what > 2) {
            return -1;
        }
        int a = good.get(0)[0];
        int b = 0;
        for (int[] l : good) {
            if (l[0] == a) {
                b = Math.max(b, l[1]);
            }
        }
        return what == 1 ? a : b;
    }

    int lossOf(Now n, int many) {
        long lost = 0;
        for (int i = 0; i < g.apples.size(); i++) {
            if (!n.hang[i] || g.apples.get(i).sort.equals("deaf")) {
                continue;
            }
            long p = 1000000;
            for (int d = 0; d < many; d++) {
                for (int[] s : g.strangers) {
                    if (meant(n, i, s[0])) {
                        p = p * (10 - s[1]) / 10;
                    }
                }
            }
            lost += g.apples.get(i).worth * (1000000 - p) / 1000;
        }
        return (int) lost;
    }

    int loss(int many) {
        return many < 1 || many > 30 ? -1 : lossOf(now, many);
    }

    int best(int apple, int many) {
        if (many < 1 || many > 30 || !hasApple(apple) || !now.hang[apple]) {
            return -1;
        }
        int best = -1;
        int least = Integer.MAX_VALUE;
        for (int s = 0; s < g.sounds.size(); s++) {
            if (other(apple, s)) {
                continue;
            }
            Now n = now.twin();
            n.sound[apple] = s;
            if (lossOf(n, many) < least) {
                least = lossOf(n, many);
                best = s;
            }
        }
        return best;
    }

    int stolen(int page, int lane, int loud) {
        Now n = now.twin();
        int got = 0;
        for (int a : g.pages.get(page)) {
            for (int f : cry(n, lane, loud, g.apples.get(a).sound)) {
                got += g.apples.get(f).worth;
            }
        }
        return got;
    }

    static boolean voice(int lane, int loud) {
        return lane >= 0 && lane <= 11 && loud >= 0 && loud <= 6;
    }

    int thief(int page, int lane, int loud) {
        if (page < 0 || page >= g.pages.size() || !voice(lane, loud)) {
            throw new NoSuchElementException();
        }
        return stolen(page, lane, loud);
    }

    int hide(int lane, int loud) {
        if (g.pages.size() < 2 || !voice(lane, loud)) {
            return -1;
        }
        int best = -1;
        int least = Integer.MAX_VALUE;
        for (int p = 0; p < g.pages.size(); p++) {
            int most = 0;
            for (int q = 0; q < g.pages.size(); q++) {
                if (q != p) {
                    most = Math.max(most, stolen(q, lane, loud));
                }
            }
            if (most < least) {
                least = most;
                best = p;
            }
        }
        return best;
    }

    void orders(List<Integer> sofar, List<List<Integer>> out) {
        if (sofar.size() == g.banns.size()) {
            out.add(new ArrayList<>(sofar));
            return;
        }
        for (int i = 0; i < g.banns.size(); i++) {
            if (!sofar.contains(i)) {
                sofar.add(i);
                orders(sofar, out);
                sofar.remove(sofar.size() - 1);
            }
        }
    }

    int banns(int lane, int loud, int what) {
        if (g.banns.isEmpty() || !voice(lane, loud) || what < 0 || what > g.banns.size()) {
            return -1;
        }
        List<List<Integer>> all = new ArrayList<>();
        orders(new ArrayList<>(), all);
        List<Integer> best = null;
        int least = Integer.MAX_VALUE;
        for (List<Integer> order : all) {
            Now n = now.twin();
            for (int b : order) {
                cry(n, lane, loud, g.banns.get(b)[0]);
                cry(n, lane, loud, g.banns.get(b)[1]);
                n.day += 7;
            }
            if (n.had - now.had < least) {
                least = n.had - now.had;
                best = order;
            }
        }
        return what == 0 ? least : best.get(what - 1);
    }

    long seed;

    int draw(int m) {
        seed = Math.floorMod(seed * 1103515245L + 12345L, 2147483648L);
        return (int) (seed / 65536 % m);
    }

    int years(int s, int many, int what) {
        if (s < 0 || s > 9999 || many < 1 || many > 60 || what < 0 || what > 2) {
            return -1;
        }
        seed = s;
        Now n = now.twin();
        int green = 0;
        for (int d = 0; d < many; d++) {
            List<Integer> fell = new ArrayList<>();
            for (int[] st : g.strangers) {
                if (draw(10) < st[1]) {
                    fell.addAll(cry(n, draw(12), 3, st[0]));
                }
            }
            if (!g.people.isEmpty() && !g.sounds.isEmpty()) {
                int p = draw(g.people.size());
                int so = draw(g.sounds.size());
                if (canSay(p, so)) {
                    fell.addAll(cry(n, p, so));
                }
            }
            for (int f : fell) {
                green += n.day < g.apples.get(f).ripe ? 1 : 0;
            }
            for (int a = 0; a < g.apples.size(); a++) {
                if (n.hang[a] && n.day >= g.apples.get(a).ripe) {
                    take(n, a);
                    break;
                }
            }
            morrow(n);
        }
        int hang = 0;
        for (boolean h : n.hang) {
            hang += h ? 1 : 0;
        }
        return what == 0 ? n.had - now.had : what == 1 ? green : hang;
    }

    boolean mark(int m, boolean back) {
        if (m < 0 || m > 3 || back && marks[m] == null) {
            return false;
        }
        if (back) {
            now = marks[m].now.twin();
            lines = new ArrayList<>(marks[m].lines);
            lies = new HashMap<>(marks[m].lies);
            tellings = new ArrayList<>(marks[m].tellings);
            undos.clear();
        } else {
            marks[m] = new Mark();
            marks[m].now = now.twin();
            marks[m].lines = new ArrayList<>(lines);
            marks[m].lies = new HashMap<>(lies);
            marks[m].tellings = new ArrayList<>(tellings);
        }
        return true;
    }

    int count(int what) {
        int hang = 0;
        for (boolean h : now.hang) {
            hang += h ? 1 : 0;
        }
        int[] all = {g.apples.size(), g.sounds.size(), g.people.size(), g.strangers.size(), g.pages.size(),
            g.banns.size(), hang, now.day, now.had, lines.size(), lies.size(), tellings.size(), undos.size(),
            tape.length(), now.picked ? 1 : 0};
        return what < 0 || what >= all.length ? -1 : all[what];
    }
}
