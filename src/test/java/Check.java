/** What the tests of the promises share: texts on the tape, and answers held against those that are due. */
final class Check {
    private int asked = 0;
    private int wrong = 0;
    private String promise = "";

    /** What follows is for this promise. */
    void promise(int number, String name) {
        promise = "promise " + number + ", " + name;
    }

    /** What follows is for something else than the document. */
    void about(String what) {
        promise = what;
    }

    /** What follows is for these words of the document, and fails if they are broken. */
    void sentence(String where, String words) {
        promise = where + " '" + words + "'";
    }

    void due(String what, long got, long want) {
        asked++;
        if (got != want) {
            wrong++;
            System.out.println(promise + ": " + what + " answered " + got + ", due is " + want);
        }
    }

    void due(String what, boolean got, boolean want) {
        due(what, got ? 1 : 0, want ? 1 : 0);
    }

    /** Ends the program: with exit code 1 if an answer was wrong, or if there was none. */
    void end() {
        System.out.println(asked + " answers asked, " + wrong + " wrong");
        System.exit(wrong == 0 && asked > 0 ? 0 : 1);
    }

    static int feed(HotCakes cakes, String text) {
        int signs = cakes.count(9);
        for (int i = 0; i < text.length(); i += 24) {
            signs = cakes.feed(bytes(text, i), bytes(text, i + 8), bytes(text, i + 16));
        }
        return signs;
    }

    private static long bytes(String text, int from) {
        long packed = 0;
        for (int i = from; i < from + 8; i++) {
            packed = packed << 8 | (i < text.length() ? text.charAt(i) : 0);
        }
        return packed;
    }

    static int griddle(HotCakes cakes, String text) {
        feed(cakes, text);
        return cakes.griddle();
    }

    static int plan(HotCakes cakes, String text) {
        feed(cakes, text);
        return cakes.plan();
    }

    static int wish(HotCakes cakes, String text) {
        feed(cakes, text);
        return cakes.wish();
    }

    /** A new object with this griddle. */
    static HotCakes with(String griddle) {
        HotCakes cakes = new HotCakes();
        int fault = griddle(cakes, griddle);
        if (fault != 0) {
            throw new IllegalStateException("fault " + fault + " in " + griddle);
        }
        return cakes;
    }

    /** All of one kind, from the top down so wide; those with a minus lie up. Their names: a, b, .. */
    static String stack(String kind, int... widths) {
        StringBuilder text = new StringBuilder();
        for (int i = 0; i < widths.length; i++) {
            text.append("cake ").append((char) ('a' + i)).append(' ').append(kind).append(" wide ")
                .append(Math.abs(widths[i])).append(widths[i] < 0 ? " up ; " : " down ; ");
        }
        return text.toString();
    }

    /** All of it that can be asked and that a fault must leave as it is. */
    static String state(HotCakes cakes) {
        StringBuilder text = new StringBuilder();
        for (int what = 0; what < 9; what++) {
            text.append(cakes.count(what)).append(' ');
        }
        for (int place = 0; place < 5; place++) {
            int cake = cakes.there(place);
            text.append(cake).append(':').append(cakes.cake(cake, 0)).append(':').append(cakes.cake(cake, 1)).append(':')
                .append(cakes.cake(cake, 3)).append(' ').append(cakes.cost(place + 1)).append(cakes.can(place + 1)).append(' ');
        }
        return text.append(cakes.far()).append(' ').append(cakes.judged(2)).append(' ').append(cakes.fit())
            .append(' ').append(cakes.ends()).toString();
    }
}
