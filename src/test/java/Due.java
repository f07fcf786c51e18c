/** What the tests share: answers are compared, texts are fed, and the end is told. */
final class Due {
    private static int checked = 0;
    private static int wrong = 0;

    private Due() {
    }

    static void is(String call, long got, long want) {
        checked++;
        if (got != want) {
            wrong++;
            System.out.println(call + " answered " + got + ", due is " + want);
        }
    }

    static void feed(TableRocks x, String text) {
        for (int i = 0; i < text.length(); i++) {
            x.feed(text.charAt(i));
        }
    }

    /** Feeds a text to an empty tape and reads it. */
    static int text(TableRocks x, String text) {
        feed(x, text);
        return x.text();
    }

    /** A new object whose rule is the text told. */
    static TableRocks ruled(String text) {
        TableRocks x = new TableRocks();
        is("text() of " + text, text(x, text), 1);
        is("force(1)", x.force(1), 0);
        return x;
    }

    /** A new object with the heights of the cells beneath legs 0 .. 3, as it first stands. */
    static TableRocks uneven(int zero, int one, int two, int three) {
        TableRocks x = new TableRocks();
        x.floor(28, zero);
        x.floor(35, one);
        x.floor(26, two);
        x.floor(19, three);
        return x;
    }

    static void fill(TableRocks x, int sheet, int sort, int... items) {
        is("sheet", x.sheet(sheet, sort, items.length), 1);
        for (int i = 0; i < items.length; i++) {
            is("cell", x.cell(sheet, i, items[i]), 1);
        }
    }

    static void end(String test) {
        System.out.println(test + ": " + checked + " checked, " + wrong + " wrong");
        if (wrong != 0 || checked == 0) {
            System.exit(1);
        }
    }
}
