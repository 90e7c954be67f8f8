/** What the tests share: telling an orchard in text, and comparing an answer with the one that is due. */
final class Due {
    private static int wrong;

    private Due() {
    }

    static void same(String what, long got, long want) {
        if (got != want) {
            wrong++;
            System.out.println(what + " answered " + got + ", due is " + want);
        }
    }

    static void yes(String what, boolean got) {
        same(what, got ? 1 : 0, 1);
    }

    static void no(String what, boolean got) {
        same(what, got ? 1 : 0, 0);
    }

    static void text(String what, String got, String want) {
        if (!got.equals(want)) {
            wrong++;
            System.out.println(what + " answered\n" + got + ", due is\n" + want);
        }
    }

    /** All that can be asked for of a small orchard without a change; some hundred calls. */
    static String state(NameOrchard x) {
        StringBuilder s = new StringBuilder();
        for (int what = 0; what < 15; what++) {
            s.append(what).append(':').append(x.count(what)).append(' ');
        }
        for (int apple = 0; apple < x.count(0); apple++) {
            s.append("\napple ").append(apple);
            for (int what = 0; what < 10; what++) {
                s.append(' ').append(x.apple(apple, what));
            }
        }
        for (int person = 0; person < x.count(2); person++) {
            s.append("\nperson ").append(person);
            for (int sound = 0; sound < x.count(1); sound++) {
                s.append(' ').append(x.falls(person, sound));
            }
        }
        s.append("\nasked");
        for (int what = 0; what < 4; what++) {
            s.append(' ').append(x.judged(what)).append(' ').append(x.called(what)).append(' ').append(x.laws(what))
                    .append(' ').append(x.crop(2, what)).append(' ').append(x.years(7, 9, what)).append(' ')
                    .append(x.banns(2, 2, what));
        }
        return s.append(' ').append(x.fetch()).append(' ').append(x.loss(2)).append(' ').append(x.hide(2, 2)).append('\n')
                .toString();
    }

    /** Feeds a text of signs 1 to 255, in eights. */
    static void feed(NameOrchard x, String text) {
        for (int i = 0; i < text.length(); i += 24) {
            x.feed(eight(text, i), eight(text, i + 8), eight(text, i + 16));
        }
    }

    static long eight(String text, int from) {
        long packed = 0;
        for (int i = from; i < from + 8; i++) {
            packed = packed << 8 | (i < text.length() ? text.charAt(i) & 255 : 0);
        }
        return packed;
    }

    static int orchard(NameOrchard x, String text) {
        feed(x, text);
        return x.orchard();
    }

    static int days(NameOrchard x, String text) {
        feed(x, text);
        return x.days();
    }

    /** A new object with an orchard that must be right. */
    static NameOrchard told(String text) {
        NameOrchard x = new NameOrchard();
        same("orchard() of " + text, orchard(x, text), 0);
        return x;
    }

    /** The fault of the orchard that is told by a text to a new object. */
    static void fault(String text, int kind, int place) {
        same("orchard() of '" + text + "'", orchard(new NameOrchard(), text), kind == 0 ? 0 : kind + 16 * place);
    }

    /** Ends the test: with 1 if an answer was wrong. */
    static void end() {
        if (wrong > 0) {
            System.out.println(wrong + " answers are wrong");
            System.exit(1);
        }
    }
}
