/** Promises 7 to 9, and the grammar of texts. */
public final class TextsTest {
    private static final String PLAIN = "slack 1;worth 2;spills 3;";

    public static void main(String[] args) {
        promise7Feed();
        promise8Text();
        promise9Force();
        values();
        wrapping();
        whatNamesMean();
        parts();
        faults();
        openOnes();
        textsThatStand();
        Due.end("TextsTest");
    }

    private static void promise7Feed() {
        TableRocks x = new TableRocks();
        Due.is("feed(-1)", x.feed(-1), TableRocks.BAD);
        Due.is("feed(256)", x.feed(256), TableRocks.BAD);
        Due.is("count(5)", x.count(5), 0);
        Due.is("feed(0)", x.feed(0), 1);
        Due.is("feed(255)", x.feed(255), 2);
        for (int i = 3; i <= 160; i++) {
            Due.is("feed(32)", x.feed(32), i);
        }
        Due.is("feed(32)", x.feed(32), TableRocks.FULL);
        Due.is("feed(256)", x.feed(256), TableRocks.BAD);
        Due.is("count(5)", x.count(5), 160);
        Due.is("text()", x.text(), -100);
        Due.is("count(5)", x.count(5), 0);
        Due.is("feed(1)", x.feed(1), 1);
    }

    private static void promise8Text() {
        TableRocks x = new TableRocks();
        Due.is("text() of nothing", x.text(), -100);
        for (int n = 1; n <= 5; n++) {
            Due.is("text()", Due.text(x, PLAIN), n);
            Due.is("count(4)", x.count(4), n + 1);
            Due.is("count(5)", x.count(5), 0);
            if (n < 5) {
                Due.is("text() of a fault", Due.text(x, "slack 1;worth?"), -113);
                Due.is("count(4)", x.count(4), n + 1);
                Due.is("count(5)", x.count(5), 0);
            }
        }
        Due.is("text(), the seventh", Due.text(x, PLAIN), TableRocks.FULL);
        Due.is("the tape stays", x.count(5), PLAIN.length());
        Due.feed(x, "?");
        Due.is("text(), the seventh, a fault", x.text(), TableRocks.FULL);
        Due.is("the tape stays", x.count(5), PLAIN.length() + 1);
        Due.is("count(4)", x.count(4), 6);
        Due.is("no text is the rule by being read", x.count(6), 0);
    }

    private static void promise9Force() {
        TableRocks x = new TableRocks();
        Due.is("force(1)", x.force(1), TableRocks.BAD);
        Due.is("force(-1)", x.force(-1), TableRocks.BAD);
        Due.is("force(0)", x.force(0), 0);
        Due.text(x, PLAIN);
        Due.text(x, "slack 0;worth 7;spills 8;");
        Due.is("force(3)", x.force(3), TableRocks.BAD);
        Due.is("force(2)", x.force(2), 0);
        Due.is("count(6)", x.count(6), 2);
        Due.is("worth", x.stands(4), 7);
        Due.is("spills", x.stands(5), 8);
        Due.is("force(1)", x.force(1), 2);
        Due.is("worth", x.stands(4), 2);
        Due.is("spills", x.stands(5), 3);
        Due.is("force(0)", x.force(0), 1);
        Due.is("worth", x.stands(4), 0);
    }

    private static void values() {
        value("7", 7);
        value("0007", 7);
        value("5 or 0", 1);
        value("0 or 5", 1);
        value("0 or 0", 0);
        value("5 and 3", 1);
        value("5 and 0", 0);
        value("0 and 5", 0);
        value("not 7", 0);
        value("not 0", 1);
        value("not not 9", 1);
        value("1 or 0 and 0", 1);
        value("0 and 0 or 1", 1);
        value("3 < 4", 1);
        value("4 < 4", 0);
        value("5 < 4", 0);
        value("4 = 4", 1);
        value("4 = 5", 0);
        value("-1 < 0", 1);
        value("not 2 = 2", 0);
        value("not 0 < 0", 1);
        value("not 3 and 0", 0);
        value("not 0 or 1", 1);
        value("10 - 2 - 3", 5);
        value("2 + 3 * 4", 14);
        value("2 * 3 + 4", 10);
        value("(2 + 3) * 4", 20);
        value("-2*3", -6);
        value("- 2 - 3", -5);
        value("-(2 - 3)", 1);
        value("--5", 5);
        value("1 + 2 < 4", 1);
        value("4 < 1 + 2", 0);
        value("1 + (2 < 4)", 2);
        value("2 = 1 + 1 and 3 < 4", 1);
        value("5 * (not 0)", 5);
        value("900 + 99", 999);
        value("900 + 100", 999);
        value("-9999", -999);
        value("0 - 999", -999);
    }

    private static void wrapping() {
        value("9999 * 9999 * 9999", -999);
        value("9999*9999*9999 * 3 < 0", 0);
        value("9999*9999*9999 < 0", 1);
        value("-(8192*8192*32) = 8192*8192*32", 1);
        value("8192*8192*32 - 1 < 0", 0);
    }

    private static void value(String e, int want) {
        TableRocks x = Due.ruled("slack 0;worth " + e + ";spills 0;");
        Due.is("worth " + e, x.stands(4), want);
    }

    private static void whatNamesMean() {
        name("rock", 5, 3, 10);
        name("lean", 6, 6, 11);
        name("turn", 0, 0, 0);
        name("y", 3, 3, 3);
        name("x", 3, 3, 3);
        name("give", 0, 2, 0);
        value("give", 0);
        TableRocks x = Due.ruled("slack 0;worth turn*100+y*10+x;spills 0;");
        Due.is("standsAt(13, 6, 4)", x.standsAt(13, 6, 4), 615);
        x.set(2, 0, 58);
        x.set(4, 0, 3);
        Due.is("stands(4)", x.stands(4), 372);
    }

    /** As it stands on legs 0 and 2, there with a felt, and on legs 1 and 3. */
    private static void name(String name, int plain, int felt, int other) {
        String text = "slack 0;worth " + name + ";spills " + name + ";";
        TableRocks x = Due.ruled(text);
        uneven(x, 7, 3, 1, 0);
        Due.is("worth " + name, x.stands(4), plain);
        Due.is("spills " + name, x.stands(5), plain);
        x.leg(3, 1, 2);
        x.set(0, 3, 48);
        Due.is("worth " + name + " by a felt", x.stands(4), felt);
        Due.is("spills " + name + " by a felt", x.stands(5), felt);
        x.leg(3, 0, 0);
        x.set(0, 3, 50);
        uneven(x, 1, 9, 2, 4);
        Due.is("worth " + name + " the other way", x.stands(4), other);
        Due.is("spills " + name + " the other way", x.stands(5), other);
    }

    private static void uneven(TableRocks x, int zero, int one, int two, int three) {
        x.floor(28, zero);
        x.floor(35, one);
        x.floor(26, two);
        x.floor(19, three);
    }

    private static void parts() {
        slack("0", 5, 5);
        slack("4", 5, 5);
        slack("5", 5, 0);
        slack("rock", 5, 0);
        slack("rock - 1", 5, 5);
        slack("rock + lean", 5, 0);
        slack("lean", 5, 5);
        slack("rock + lean - 1", 5, 5);
        slack("y + x", 6, 0);
        slack("y + x", 7, 7);
        slack("turn + 4", 5, 5);
        slack("99", 9, 0);
        slack("99", 10, 10);
        slack("-5", 1, 1);
        TableRocks x = Due.ruled("slack give * 2 - 1;worth give;spills 0-1;");
        x.floor(28, 7);
        x.leg(1, 1, 9);
        x.set(0, 1, 41);
        Due.is("gap", x.stands(0), 7);
        Due.is("rock by a slack 5", x.stands(1), 4);
        Due.is("give", x.stands(4), 3);
        Due.is("spills -1", x.stands(5), 0);
        x = Due.ruled("slack 0;worth 0;spills 100;");
        Due.is("spills 100", x.stands(5), 99);
        x = Due.ruled("slack 9;worth rock;spills give;");
        x.floor(28, 7);
        x.leg(1, 5, 4);
        Due.is("rock of worth by slack", x.stands(4), 0);
        Due.is("give of spills by slack", x.stands(5), 4);
        Due.is("the gap stays", x.stands(0), 7);
        Due.is("the loose legs stay", x.stands(3), 10);
        Due.is("the lean stays", x.stands(2), 7);
    }

    private static void slack(String e, int gap, int rock) {
        TableRocks x = Due.ruled("slack " + e + ";worth 0;spills 0;");
        x.floor(28, gap);
        Due.is("gap", x.stands(0), gap);
        Due.is("rock by slack " + e, x.stands(1), rock);
    }

    private static void faults() {
        fault("", 0);
        fault("   ", 3);
        fault(" \n\n  ", 5);
        fault("slack", 5);
        fault("slack 1", 7);
        fault("slack 1 ", 8);
        fault("slack 1;\n", 9);
        fault("slack 1;worth 2;spills 3", 24);
        fault("slack 1;worth 2;spills 3 \n", 26);
        fault("worth 1;", 0);
        fault("slack 1;spills 2;", 8);
        fault("slack 1;worth 2;worth 3;", 16);
        fault("slack 1;slack 1;", 8);
        fault("slack ;", 6);
        fault("slack;", 5);
        fault("slack 1 2;", 8);
        fault("slack 1 rock;", 8);
        fault("slack 12345;", 6);
        fault("slack 00001;", 6);
        fault("slack foo;", 6);
        fault("slack rocky;", 6);
        fault("slack roc;", 6);
        fault("slacker 1;", 0);
        fault("slack1worth", 6);
        fault(PLAIN + "x", 25);
        fault(PLAIN + " ;", 26);
        fault(PLAIN + PLAIN, 25);
        fault("slack Rock;", 6);
        fault("slack\t1;", 5);
        fault("slack 1/1;", 7);
        fault("slack 1>1;", 7);
        fault("slack 1" + (char) 233 + ";", 7);
        fault("slack 1" + (char) 0 + ";", 7);
        fault("slack 1<2<3;", 9);
        fault("slack 1=2=3;", 9);
        fault("slack 1<2=3;", 9);
        fault("slack not 1<2<3;", 13);
        fault("slack 1+not 2;", 8);
        fault("slack 1<not 2;", 8);
        fault("slack -not 2;", 7);
        fault("slack slack;", 6);
        fault("slack 1 or;", 10);
        fault("slack or 1;", 6);
        fault("slack 1 and and 1;", 12);
        fault("slack 1+;", 8);
        fault("slack +1;", 6);
        fault("slack 1**1;", 8);
        fault("slack *1;", 6);
        fault("slack <1;", 6);
        fault("slack not;", 9);
        fault("slack -;", 7);
        fault("slack ();", 7);
        fault("slack (1;", 8);
        fault("slack (1));", 9);
        fault("slack 1);", 7);
        fault("slack (1 1);", 9);
        fault("slack 1 @ 12345 foo", 8);
        fault("slack 3rock;", 7);
    }

    private static void openOnes() {
        fault("slack ((((((1))))));", 11);
        fault("slack ------1;", 11);
        fault("slack not not not not not not 1;", 26);
        fault("slack not (-(not (-1))) ;", 17);
        fault("slack (not (not (-1)));", 17);
        fault("slack (not (not (1)));worth -(-(-(1)));spills 3;", 33);
        fault("slack (((((not 1)))));", 11);
        fault("slack (((((-1)))));", 11);
        fault("slack not not not not not (1);", 26);
        fault("slack not not not not not -1;", 26);
        fault("slack not not not not not 1 = (1);", 30);
        fault("slack -----(1);", 11);
    }

    private static void textsThatStand() {
        stands("slack (((((1)))));worth -----1;spills not not not not not 1;");
        stands("slack -1*-1*-1*-1*-1*-1;worth (1)+(1)+(1)+(1)+(1)+(1);spills 1;");
        stands("slack not 1 and not 1 and not 1 and not 1 and not 1 and not 1;worth 1;spills 1;");
        stands("slack not not not not not 1 and (1);worth 1;spills 1;");
        stands("slack -----1*(1);worth 1;spills 1;");
        stands("slack(((((1)))))+(((((2)))));worth(((((1<2)))));spills(((((1 or 2)))));");
        stands("\n\nslack\n1;worth2;spills3;  \n ");
        stands("slack 9999;worth 0000;spills rock+lean+turn+y+x+give;");
        stands("slack 1-1--1;worth 1*-1;spills 1=-1;");
        stands("slack(1<2)<3;worth 1 and 2 or 3 and 4;spills not 1<2;");
    }

    private static void fault(String text, int place) {
        TableRocks x = new TableRocks();
        Due.is("text() of " + text, Due.text(x, text), -100 - place);
        Due.is("count(4)", x.count(4), 1);
        Due.is("count(5)", x.count(5), 0);
    }

    private static void stands(String text) {
        TableRocks x = new TableRocks();
        Due.is("text() of " + text, Due.text(x, text), 1);
        Due.is("count(4)", x.count(4), 2);
        Due.is("count(5)", x.count(5), 0);
    }
}
