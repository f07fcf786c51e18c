/**
 * The edges that 'Terms' names in its part 1 for THE TAPE and TEXTS: a test for each sentence, which stands in quotes
 * ahead of it.
 */
public final class TextEdgesTest {
    /** A whole TEXT in the fewest bytes: 22. */
    private static final String SHORTEST = "slack0;worth0;spills0;";
    private static final int FULL = TableRocks.FULL;

    public static void main(String[] args) {
        tapeHolds160();
        tokensAreLong();
        words();
        numbers();
        signs();
        blanks();
        threeParts();
        eitherOf();
        bothOf();
        notAndCompared();
        sums();
        terms();
        ones();
        namesAndKeys();
        wrapping();
        oneOrZero();
        firstThatCantStand();
        endsTooEarly();
        beginsNone();
        fiveOpen();
        endsOfOpenOnes();
        sixTexts();
        namesOfTable();
        giveOfNone();
        ofSlack();
        boundOfSlack();
        boundOfWorth();
        boundOfSpills();
        textZero();
        Due.end("TextEdgesTest");
    }

    /** "A TEXT is read from THE TAPE (160 bytes at most)." */
    private static void tapeHolds160() {
        StringBuilder text = new StringBuilder("slack 1");
        while (text.length() < 160 - 17) {
            text.append("+1");
        }
        text.append(";worth 7;spills0;");
        Due.is("bytes of the text", text.length(), 160);
        TableRocks x = new TableRocks();
        for (int i = 0; i < 160; i++) {
            Due.is("feed", x.feed(text.charAt(i)), i + 1);
        }
        Due.is("feed, the 161st", x.feed(';'), FULL);
        Due.is("count(5)", x.count(5), 160);
        Due.is("text() of 160 bytes", x.text(), 1);
        Due.is("count(5)", x.count(5), 0);
        x.force(1);
        Due.is("its worth", x.stands(4), 7);
        x.floor(28, 9);
        Due.is("its slack", x.stands(1), 0);
        fault(text.substring(0, 159) + "!", 159);
        fault(text.substring(0, 159) + " ", 160);
        fault(text.substring(0, 159), 159);
        fault(" ".repeat(160), 160);
        fault(" ".repeat(159) + "(", 159);
        fault("a".repeat(160), 0);
        fault("slack " + "9".repeat(154), 6);
        fault("slack " + "1+".repeat(77), 160);
        x = new TableRocks();
        Due.is("text() of a long one", Due.text(x, "slack 1111111;;;;;;;;"), -106);
        Due.is("text(): no byte of an older one is read", Due.text(x, "slack 1"), -107);
        Due.is("text(): no byte of an older one is read", Due.text(x, "slack 1 "), -108);
        Due.is("text(): no byte of an older one is read", Due.text(x, "slac"), -100);
    }

    /** "TOKENS, each as long as can be:" */
    private static void tokensAreLong() {
        fault("slackslack 0;", 0);
        fault("slackrock;worth0;spills0;", 0);
        fault("slack rocklean;", 6);
        fault("slack rock lean;", 11);
        fault("slack yx;", 6);
        fault("slack notrock;", 6);
        fault("slack 1 orx;", 8);
        fault("slack 1 andx;", 8);
        fault("slack 1234567;", 6);
        fault("slack 123 4567;", 10);
        value("not 1or not 1and 1", 0);
        value("1or 0", 1);
        value("3and y", 1);
        value("12", 12);
    }

    /** "WORDS (a .. z)," The bytes next to a and z begin none, nor do great letters. */
    private static void words() {
        fault("slack `;", 6);
        fault("slack {;", 6);
        fault("slack a;", 6);
        fault("slack z;", 6);
        fault("slack Y;", 6);
        fault("Slack 0;", 0);
        fault("slack rock{;", 10);
        fault("slack `rock;", 6);
        fault("slack roCk;", 6);
        fault("slack rock_;", 10);
    }

    /** "NUMBERS (as many digits as stand there, 4 at most)," */
    private static void numbers() {
        value("0", 0);
        value("9", 9);
        value("00", 0);
        value("090", 90);
        value("0009", 9);
        value("9999-9000", 999);
        value("9999-9001", 998);
        value("1000-999", 1);
        fault("slack 10000;", 6);
        fault("slack 99999;", 6);
        fault("slack 00000;", 6);
        fault("slack 0-00001;", 8);
        fault("slack /;", 6);
        fault("slack :;", 6);
        fault("slack 1:;", 7);
        fault("slack 1/;", 7);
        fault("slack 1.5;", 7);
    }

    /** "SIGNS ( ) ; + - * < = ;" Of all bytes only blanks, digits and a - may stand between slack and 0. */
    private static void signs() {
        for (int b = 0; b <= 255; b++) {
            TableRocks x = new TableRocks();
            Due.feed(x, "slack");
            x.feed(b);
            Due.feed(x, "0;worth0;spills0;");
            int due = -105;
            if (b == 32 || b == 10 || b == '-' || b >= '0' && b <= '9') {
                due = 1;
            } else if (b >= 'a' && b <= 'z') {
                due = -100;
            } else if (b == '(') {
                due = -107;
            }
            Due.is("text() with byte " + b, x.text(), due);
        }
        for (int b = 0; b <= 255; b++) {
            TableRocks x = new TableRocks();
            Due.feed(x, "slack 1");
            x.feed(b);
            Due.feed(x, "1;worth0;spills0;");
            boolean isRight = b == '+' || b == '-' || b == '*' || b == '<' || b == '=' || b >= '0' && b <= '9';
            int due = isRight ? 1 : b == 32 || b == 10 ? -108 : b == ';' ? -108 : -107;
            Due.is("text() with byte " + b, x.text(), due);
        }
    }

    /** "blanks (32, 10) may stand between." */
    private static void blanks() {
        stands("  \n slack\n0 ; \n worth 0\n;\nspills  0  ;\n\n ");
        stands("slack ( ( 1 ) ) * - - 1 < - 1 ; worth not ( 0 ) ; spills 1 = 1 ;");
        stands("slack((1))*--1<-1;worth not(0);spills1=1;");
        stands(SHORTEST);
        fault("sl ack 0;", 0);
        fault("slack 1 0;", 8);
        fault("slack\t0;", 5);
        fault("slack\r0;", 5);
        fault("slack\f0;", 5);
        fault("slack" + (char) 11 + "0;", 5);
        fault("slack" + (char) 31 + "0;", 5);
        fault("slack" + (char) 33 + "0;", 5);
        fault("slack" + (char) 9 + "0;", 5);
        fault("slack" + (char) 160 + "0;", 5);
        fault((char) 0 + SHORTEST, 0);
        for (int b = 0; b <= 255; b++) {
            TableRocks x = new TableRocks();
            Due.feed(x, SHORTEST);
            x.feed(b);
            Due.is("text() with byte " + b + " at its end", x.text(), b == 32 || b == 10 ? 1 : -122);
        }
    }

    /** "TEXT: slack E ; worth E ; spills E ;" */
    private static void threeParts() {
        fault("", 0);
        fault(";", 0);
        fault("worth0;slack0;spills0;", 0);
        fault("slack0;spills0;worth0;", 7);
        fault("slack0;slack0;", 7);
        fault("slack0;worth0;slack0;", 14);
        fault("slack0;worth0;worth0;", 14);
        fault("slack0 worth0;spills0;", 7);
        fault("slack0;worth0 spills0;", 14);
        fault("slack0;;worth0;spills0;", 7);
        fault("slack0;worth0;spills0", 21);
        fault(SHORTEST + ";", 22);
        fault(SHORTEST + "slack", 22);
        fault(SHORTEST + "0", 22);
        fault(SHORTEST + SHORTEST, 22);
        TableRocks x = Due.ruled("slack 5;worth 6;spills 7;");
        x.floor(28, 5);
        Due.is("rock by slack 5", x.stands(1), 0);
        Due.is("worth 6", x.stands(4), 6);
        Due.is("spills 7", x.stands(5), 7);
    }

    /** "E: AND { or AND }." */
    private static void eitherOf() {
        value("7", 7);
        value("0 or 0", 0);
        value("0 or 0 or 0 or 7", 1);
        value("7 or 0 or 0 or 0", 1);
        fault("slack or;", 6);
        fault("slack 1 or;", 10);
        fault("slack 1 or or 1;", 11);
        fault("slack 1 or 1 1;", 13);
    }

    /** "AND: NOT { and NOT }." */
    private static void bothOf() {
        value("1 and 1 and 1 and 7", 1);
        value("1 and 1 and 0 and 1", 0);
        value("0 and 1 and 1", 0);
        value("1 or 1 and 0", 1);
        value("0 and 1 or 1", 1);
        value("0 or 1 and 1", 1);
        fault("slack and;", 6);
        fault("slack 1 and;", 11);
        fault("slack 1 and and 1;", 12);
        fault("slack 1 and or 1;", 12);
    }

    /** "NOT: not NOT, or SUM, perhaps < or = and a SUM (of a SUM alone, once)." */
    private static void notAndCompared() {
        value("not 5", 0);
        value("not 0", 1);
        value("not not 5", 1);
        value("not 1 < 2", 0);
        value("not 2 < 1", 1);
        value("not 3 = 4", 1);
        value("1 < 2", 1);
        value("2 < 2", 0);
        value("3 < 2", 0);
        value("1 = 2", 0);
        value("2 = 2", 1);
        value("3 = 2", 0);
        value("1 + 1 < 1 + 2", 1);
        value("1 + 2 = 2 + 1", 1);
        value("(0 < 2) < 2", 1);
        value("3 = (3 = 3)", 0);
        fault("slack 1<2<3;", 9);
        fault("slack 1<2=1;", 9);
        fault("slack 1=2<3;", 9);
        fault("slack 1=1=1;", 9);
        fault("slack 1==1;", 8);
        fault("slack 1<=1;", 8);
        fault("slack 1<not 1;", 8);
        fault("slack 1=not 1;", 8);
        fault("slack <1;", 6);
        fault("slack =1;", 6);
        fault("slack 1<;", 8);
        fault("slack 1=;", 8);
        fault("slack not 1<2<3;", 13);
        fault("slack not;", 9);
        fault("slack 1 not 1;", 8);
    }

    /** "SUM: TERM { + or - TERM }." */
    private static void sums() {
        value("9 - 3 - 2", 4);
        value("9 - 3 + 2", 8);
        value("9 + 3 - 2 + 1", 11);
        value("9 - -3", 12);
        value("9 + -3", 6);
        fault("slack +;", 6);
        fault("slack +1;", 6);
        fault("slack 1+;", 8);
        fault("slack 1-;", 8);
        fault("slack 1++1;", 8);
        fault("slack 1-+1;", 8);
        fault("slack 1+not 1;", 8);
    }

    /** "TERM: ONE { * ONE }." */
    private static void terms() {
        value("2 * 3 * 4", 24);
        value("1 + 2 * 3", 7);
        value("2 * 3 + 1", 7);
        value("9 - 2 * 3", 3);
        value("-2 * -3", 6);
        value("2 * (1 + 3)", 8);
        fault("slack *;", 6);
        fault("slack 2*;", 8);
        fault("slack 2**2;", 8);
        fault("slack 2*+2;", 8);
    }

    /** "ONE: a NUMBER, a NAME, - ONE, ( E )." */
    private static void ones() {
        value("5", 5);
        value("x", 3);
        value("-5", -5);
        value("--5", 5);
        value("-x", -3);
        value("-(1 or 0)", -1);
        value("(not 0) + 1", 2);
        value("((5))", 5);
        fault("slack (;", 7);
        fault("slack );", 6);
        fault("slack ();", 7);
        fault("slack (1;", 8);
        fault("slack (1));", 9);
        fault("slack (1 2);", 9);
        fault("slack 2(1);", 7);
        fault("slack -;", 7);
        fault("slack -not 1;", 7);
        fault("slack ;", 6);
    }

    /** "NAMES are rock lean turn y x give; slack, worth, spills, or, and, not are KEYS." */
    private static void namesAndKeys() {
        for (String name : new String[] {"rock", "lean", "turn", "y", "x", "give"}) {
            stands("slack " + name + ";worth " + name + ";spills " + name + ";");
            fault(name + " 0;", 0);
            fault("slack 1 " + name + ";", 8);
            fault("slack " + name + "s;", 6);
            fault("slack " + name.substring(1) + "a;", 6);
        }
        for (String key : new String[] {"slack", "worth", "spills", "or", "and"}) {
            fault("slack " + key + ";", 6);
            fault("slack (" + key + ");", 7);
            fault("slack -" + key + ";", 7);
            fault("slack not " + key + ";", 10);
        }
        for (String key : new String[] {"slack", "worth", "spills", "not"}) {
            fault("slack 1 " + key + " 1;", 8);
        }
        for (String word : new String[] {"s", "slac", "slackk", "spill", "wort", "o", "an", "no", "nor", "gap", "z"}) {
            fault("slack " + word + ";", 6);
            fault(word + " 0;", 0);
        }
    }

    /** "An E is an int (32 bits, wrapping):" 8192*8192*32 is 2 to the 31st: it wraps to the least int. */
    private static void wrapping() {
        value("8192*8192*32 < 0", 1);
        value("8192*8192*32", -999);
        value("8192*8192*32 - 1 < 0", 0);
        value("8192*8192*32 - 1", 999);
        value("8192*8192*32 - 1 + 1 = 8192*8192*32", 1);
        value("-(8192*8192*32) = 8192*8192*32", 1);
        value("0 - 8192*8192*32 = 8192*8192*32", 1);
        value("-(8192*8192*32 - 1) - 1 = 8192*8192*32", 1);
        value("-(8192*8192*32 - 1) - 2 = 8192*8192*32 - 1", 1);
        value("8192*8192*32 < 8192*8192*32 - 1", 1);
        value("8192*8192*64", 0);
        value("8192*8192*64 + 5", 5);
        value("8192*8192*32 + 8192*8192*32 + 6", 6);
        value("not 8192*8192*64", 1);
    }

    /** "of or, and, not, <, = 1 or 0 (what is not 0 is true)." */
    private static void oneOrZero() {
        value("7 or 0", 1);
        value("0 or -7", 1);
        value("7 or 8", 1);
        value("0 or 0", 0);
        value("7 and -8", 1);
        value("7 and 8", 1);
        value("2 and 1", 1);
        value("0 and 7", 0);
        value("7 and 0", 0);
        value("not 7", 0);
        value("not -1", 0);
        value("not 0", 1);
        value("(3 < 4) + (4 = 4) + (not 0) + (7 or 7) + (7 and 7)", 5);
        value("(4 < 3) + (3 = 4) + (not 9) + (0 or 0) + (0 and 7)", 0);
        value("(7)", 7);
        value("-7", -7);
    }

    /** "FAULT: the place of the first byte of the first TOKEN that can't stand there" */
    private static void firstThatCantStand() {
        fault("rock", 0);
        fault("slack 1 rock", 8);
        fault("slack 1\n\nrock", 9);
        fault("slack 1 ) ! 12345 what", 8);
        fault("slack 1 ! ) 12345 what", 8);
        fault("slack 12345 ! what", 6);
        fault("slack what ! 12345", 6);
        fault("slack 1;worth 2;spills 3;4", 25);
        fault("slack 1;worth 2;spills 3; \n 4", 28);
    }

    /** "(the text's size, blanks at its end with it, if it ends too early)," */
    private static void endsTooEarly() {
        String[] tokens = {"slack", "1", "+", "(", "2", "<", "x", ")", ";", "worth", "not", "0", ";", "spills", "-",
            "4", "and", "5"};
        StringBuilder text = new StringBuilder();
        for (String token : tokens) {
            fault(text.toString(), text.length());
            fault(text + " ", text.length() + 1);
            fault(text + "\n \n", text.length() + 3);
            text.append(token).append(' ');
        }
        fault(text.toString(), text.length());
        stands(text + ";");
        fault("\n", 1);
        fault("slac", 0);
        fault("slack ro", 6);
    }

    /**
     * "also of a byte that begins none, a WORD that is neither KEY nor NAME, a NUMBER that is too long," Also where
     * another TOKEN could not stand either.
     */
    private static void beginsNone() {
        for (String bad : new String[] {"!", "word", "12345", "" + (char) 255, "A", "" + (char) 0, "\t", "%"}) {
            fault(bad, 0);
            fault(" " + bad + SHORTEST, 1);
            fault("slack " + bad + ";", 6);
            fault("slack 1 " + bad + ";", 8);
            fault("slack 1; " + bad, 9);
            fault("slack 1;worth (" + bad, 15);
            fault("slack 1;worth not " + bad, 18);
            fault("slack 1;worth 2;spills 3 " + bad, 25);
            fault(SHORTEST + " " + bad, 23);
        }
    }

    /** "a ( , a not, a - of - ONE while 5 of these are open" */
    private static void fiveOpen() {
        stands("slack (((((1)))));worth not not not not not 1;spills -----1;");
        fault("slack ((((((1))))));", 11);
        fault("slack not not not not not not 1;", 26);
        fault("slack ------1;", 11);
        for (int open = 0; open <= 5; open++) {
            String outer = "(".repeat(open);
            String inner = ")".repeat(open);
            text("slack " + outer + "(1)" + inner + ";worth0;spills0;", open < 5, 6 + open);
            text("slack " + outer + "not 1" + inner + ";worth0;spills0;", open < 5, 6 + open);
            text("slack " + outer + "-1" + inner + ";worth0;spills0;", open < 5, 6 + open);
            text("slack " + "-".repeat(open) + "(1);worth0;spills0;", open < 5, 6 + open);
            text("slack " + "-".repeat(open) + "-1;worth0;spills0;", open < 5, 6 + open);
            text("slack " + "not ".repeat(open) + "(1);worth0;spills0;", open < 5, 6 + 4 * open);
            text("slack " + "not ".repeat(open) + "-1;worth0;spills0;", open < 5, 6 + 4 * open);
            text("slack " + "not ".repeat(open) + "not 1;worth0;spills0;", open < 5, 6 + 4 * open);
        }
        stands("slack(not(-(1)));worth(not(-(1)));spills(not(-(1)));");
        fault("slack(not(-((1))));", 12);
        fault("slack(not(-(-1)));", 12);
        fault("slack(not(-(not 1)));", 12);
        stands("slack(((((1-1)))));worth -----1-1;spills(((((1-1-1)))));");
        fault("slack(((((1--1)))));", 12);
        fault("slack(((((1*-1)))));", 12);
        fault("slack(((((1<-1)))));", 12);
    }

    /** "(a ( till its ) , not and - till what they belong to ends)." */
    private static void endsOfOpenOnes() {
        stands("slack(((((1)))))+(((((1)))))*(((((1)))))<(((((1)))));worth0;spills0;");
        stands("slack -----1+-----1*-----1<-----1;worth0;spills0;");
        stands("slack not not not not not 1 and not not not not not 1;worth0;spills0;");
        stands("slack not not not not not 1 or (((((1)))));worth -----1;spills0;");
        stands("slack ----(1)+0;worth -----1*(1);spills -----x*-----y;");
        fault("slack not not not not not 1*(1);", 28);
        fault("slack not not not not not 1+(1);", 28);
        fault("slack not not not not not 1<(1);", 28);
        fault("slack not not not not not 1=-1;", 28);
        stands("slack not not not not not 1=1 and -1;worth0;spills0;");
        fault("slack ((((not 1=(1)))));", 16);
        stands("slack ((((not 1=1 and (1)))));worth0;spills0;");
        stands("slack ((((-1*(1)))));worth0;spills0;");
        fault("slack (((((1+(1))))));", 13);
        stands("slack ((((1)+(1))));worth0;spills0;");
        stands("slack((((1))+((1))));worth0;spills0;");
    }

    /** "There are 6 TEXTS at most, TEXT 0 with them." */
    private static void sixTexts() {
        TableRocks x = new TableRocks();
        Due.is("texts at first", x.count(4), 1);
        for (int n = 1; n <= 5; n++) {
            Due.is("text()", Due.text(x, "slack0;worth" + n + ";spills0;"), n);
            Due.is("count(4)", x.count(4), n + 1);
        }
        Due.is("text(), one more", Due.text(x, SHORTEST), FULL);
        Due.is("count(4)", x.count(4), 6);
        for (int n = 1; n <= 5; n++) {
            x.force(n);
            Due.is("worth by text " + n, x.stands(4), n);
        }
        Due.is("force(6)", x.force(6), TableRocks.BAD);
    }

    /**
     * "Of THE TABLE as it stands (or would): rock: its ROCK; lean: its LEAN; turn: TURN; y, x: of its PLACE; give:
     * GIVES of both LOOSE LEGS, together"
     */
    private static void namesOfTable() {
        int[] here = {9, 13, 0, 3, 3, 4};
        int[] there = {1, 5, 1, 2, 2, 4};
        String[] names = {"rock", "lean", "turn", "y", "x", "give"};
        for (int i = 0; i < names.length; i++) {
            TableRocks x = Due.ruled("slack0;worth " + names[i] + ";spills " + names[i] + ";");
            x.floor(28, 13);
            x.floor(27, 5);
            x.leg(1, 5, 3);
            x.leg(3, 1, 1);
            x.set(0, 3, 49);
            Due.is("gap", x.stands(0), 13);
            Due.is("worth " + names[i], x.stands(4), here[i]);
            Due.is("spills " + names[i], x.stands(5), here[i]);
            Due.is("gap, would it stand there", x.standsAt(18, 1, 0), 5);
            Due.is("worth " + names[i] + " there", x.standsAt(18, 1, 4), there[i]);
            Due.is("spills " + names[i] + " there", x.standsAt(18, 1, 5), there[i]);
        }
    }

    /** "(0, if there are none)." */
    private static void giveOfNone() {
        TableRocks x = Due.ruled("slack0;worth give;spills give;");
        for (int leg = 0; leg <= 3; leg++) {
            x.leg(leg, 3, 9);
        }
        Due.is("gap 0", x.stands(0), 0);
        Due.is("give of none", x.stands(4), 0);
        Due.is("give of none", x.stands(5), 0);
        x.floor(28, 1);
        Due.is("gap 1", x.stands(0), 1);
        Due.is("give of two", x.stands(4), 2);
    }

    /** "Of slack: rock is the size of THE GAP, lean 0." */
    private static void ofSlack() {
        slack("rock", 9, 0);
        slack("rock", 10, 10);
        slack("rock-1", 5, 5);
        slack("lean", 5, 5);
        slack("lean+4", 4, 0);
        slack("lean+4", 5, 5);
        slack("9*(lean=0)", 5, 0);
        TableRocks x = Due.ruled("slack 9*(rock=8);worth 0;spills 0;");
        x.floor(35, 8);
        x.leg(0, 5, 3);
        Due.is("gap", x.stands(0), -8);
        Due.is("the size, not what is left of it", x.stands(1), 0);
        x.floor(35, 9);
        Due.is("gap", x.stands(0), -9);
        Due.is("rock", x.stands(1), 6);
        x = Due.ruled("slack lean;worth lean;spills lean;");
        x.floor(28, 5);
        Due.is("lean of worth", x.stands(4), 5);
        Due.is("lean of slack still", x.stands(1), 5);
        Due.is("lean of spills", x.stands(5), 5);
        Due.is("lean of slack still", x.stands(1), 5);
    }

    /** "slack: by a gap that is no more than that ROCK is 0, THE GAP stays (0 .. 9, else the bound)." */
    private static void boundOfSlack() {
        slack("0", 1, 1);
        slack("1", 1, 0);
        slack("1", 2, 2);
        slack("8", 9, 9);
        slack("9", 9, 0);
        slack("9", 10, 10);
        slack("10", 9, 0);
        slack("10", 10, 10);
        slack("9999", 10, 10);
        slack("-1", 1, 1);
        slack("-9999", 1, 1);
        slack("8192*8192*32", 1, 1);
        slack("8192*8192*32-1", 10, 10);
        slack("8192*8192*32-1", 9, 0);
    }

    /** By a gap upward, and by one as large downward. */
    private static void slack(String e, int gap, int rock) {
        TableRocks x = Due.ruled("slack " + e + ";worth 0;spills 0;");
        x.floor(28, gap);
        Due.is("the gap stays", x.stands(0), gap);
        Due.is("the loose legs stay", x.stands(3), 10);
        Due.is("the lean stays", x.stands(2), gap);
        Due.is("rock by slack " + e, x.stands(1), rock);
        x.floor(28, 0);
        x.floor(35, gap);
        Due.is("the gap stays", x.stands(0), -gap);
        Due.is("rock by slack " + e, x.stands(1), rock);
    }

    /** "worth: how well it stands (-999 .. 999, else the bound)." */
    private static void boundOfWorth() {
        value("998", 998);
        value("999", 999);
        value("1000", 999);
        value("9999", 999);
        value("-998", -998);
        value("-999", -999);
        value("-1000", -999);
        value("-9999", -999);
        value("8192*8192*32", -999);
        value("8192*8192*32-1", 999);
    }

    private static void value(String e, int want) {
        TableRocks x = Due.ruled("slack 0;worth " + e + ";spills 0;");
        Due.is("worth " + e, x.stands(4), want);
        Due.is("worth " + e + " likewise", x.standsAt(27, 0, 4), want);
    }

    /** "spills: how much runs over of a full glass (0 .. 99, else the bound)." */
    private static void boundOfSpills() {
        spills("0", 0);
        spills("1", 1);
        spills("-1", 0);
        spills("-9999", 0);
        spills("98", 98);
        spills("99", 99);
        spills("100", 99);
        spills("9999", 99);
        spills("8192*8192*32", 0);
        spills("8192*8192*32-1", 99);
    }

    private static void spills(String e, int want) {
        TableRocks x = Due.ruled("slack 0;worth 0;spills " + e + ";");
        Due.is("spills " + e, x.stands(5), want);
        Due.is("spills " + e + " likewise", x.standsAt(27, 0, 5), want);
    }

    /** "TEXT 0, at first THE RULE, is: slack 0 ; worth 0 - rock * 9 - lean ; spills lean + rock * 2 ;" */
    private static void textZero() {
        int[][] floors = {{0, 0, 0, 0}, {1, 0, 0, 0}, {0, 1, 0, 0}, {7, 3, 1, 0}, {1, 9, 2, 4}, {3, 1, 2, 4}};
        int[][] due = {{0, 0}, {-10, 3}, {-10, 3}, {-51, 16}, {-101, 31}, {-3, 3}};
        for (int i = 0; i < floors.length; i++) {
            TableRocks x = Due.uneven(floors[i][0], floors[i][1], floors[i][2], floors[i][3]);
            Due.is("the rule at first", x.count(6), 0);
            Due.is("worth", x.stands(4), due[i][0]);
            Due.is("spills", x.stands(5), due[i][1]);
            String text = "slack 0 ; worth 0 - rock * 9 - lean ; spills lean + rock * 2 ;";
            Due.is("the same text once more", Due.text(x, text), 1);
            Due.is("force(1)", x.force(1), 0);
            Due.is("worth", x.stands(4), due[i][0]);
            Due.is("spills", x.stands(5), due[i][1]);
            Due.is("force(0)", x.force(0), 1);
            Due.is("worth", x.stands(4), due[i][0]);
        }
    }

    private static void text(String text, boolean stands, int place) {
        if (stands) {
            stands(text);
        } else {
            fault(text, place);
        }
    }

    private static void fault(String text, int place) {
        TableRocks x = new TableRocks();
        Due.is("text() of " + text, Due.text(x, text), -100 - place);
        Due.is("count(4)", x.count(4), 1);
        Due.is("count(5)", x.count(5), 0);
    }

    private static void stands(String text) {
        TableRocks x = new TableRocks();
        Due.is("text() of " + text, Due.text(x, text), 1);
        Due.is("count(4)", x.count(4), 2);
        Due.is("count(5)", x.count(5), 0);
    }
}
