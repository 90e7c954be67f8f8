/** Orchards as full as can be: apples aa, ab .., others oa, ob .., people pa, pb .. */
final class Many {
    private Many() {
    }

    static String apple(int i) {
        return "a" + (char) ('a' + i);
    }

    static String other(int i) {
        return "o" + (char) ('a' + i);
    }

    static String person(int i) {
        return "p" + (char) ('a' + i);
    }

    static String apples(int many) {
        StringBuilder s = new StringBuilder();
        for (int i = 0; i < many; i++) {
            s.append("apple ").append(apple(i)).append(" plain at 0 0 ripe 0 worth 1;");
        }
        return s.toString();
    }

    static String others(int many) {
        StringBuilder s = new StringBuilder();
        for (int i = 0; i < many; i++) {
            s.append("other ").append(other(i)).append(';');
        }
        return s.toString();
    }

    static String people(int many) {
        StringBuilder s = new StringBuilder();
        for (int i = 0; i < many; i++) {
            s.append("person ").append(person(i)).append(" lane 0 loud 0;");
        }
        return s.toString();
    }
}
