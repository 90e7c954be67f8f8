/** What the tests share: telling an orchard in text, and comparing an answer with the one that is due. */
final class Due {
    private static int wrong;

    private Due() {
    }

    static void same(String what, long got, long want) {
        if (got != want) {
            wrong++;
            System.out.println(what + " answered " + got + ", due is " + want);
        }
    }

    static void yes(String what, boolean got) {
        same(what, got ? 1 : 0, 1);
    }

    static void no(String what, boolean got) {
        same(what, got ? 1 : 0, 0);
    }

    /** Feeds a text of signs 1 to 255, in eights. */
    static void feed(NameOrchard x, String text) {
        for (int i = 0; i < text.length(); i += 24) {
            x.feed(eight(text, i), eight(text, i + 8), eight(text, i + 16));
        }
    }

    static long eight(String text, int from) {
        long packed = 0;
        for (int i = from; i < from + 8; i++) {
            packed = packed << 8 | (i < text.length() ? text.charAt(i) & 255 : 0);
        }
        return packed;
    }

    static int orchard(NameOrchard x, String text) {
        feed(x, text);
        return x.orchard();
    }

    static int days(NameOrchard x, String text) {
        feed(x, text);
        return x.days();
    }

    /** A new object with an orchard that must be right. */
    static NameOrchard told(String text) {
        NameOrchard x = new NameOrchard();
        same("orchard() of " + text, orchard(x, text), 0);
        return x;
    }

    /** The fault of the orchard that is told by a text to a new object. */
    static void fault(String text, int kind, int place) {
        same("orchard() of '" + text + "'", orchard(new NameOrchard(), text), kind == 0 ? 0 : kind + 16 * place);
    }

    /** Ends the test: with 1 if an answer was wrong. */
    static void end() {
        if (wrong > 0) {
            System.out.println(wrong + " answers are wrong");
            System.exit(1);
        }
    }
}
