/** The edges of promises 9 to 11: feed, law, taste, and of the texts that they read. */
final class EdgesOfLaws {
    private static final int BAD = LemonGate.BAD, FULL = LemonGate.FULL;
    private static final int LEAST = Integer.MIN_VALUE, MOST = Integer.MAX_VALUE;

    private final Said said;

    EdgesOfLaws(Said said) {
        this.said = said;
    }

    void all() {
        tape();
        lines();
        expressions();
        operands();
        names();
        open();
        ints();
        firstLine();
        fault();
        lawTaste();
        lawBuys();
        feed();
        law();
        taste();
    }

    /** Each text is a whole one. */
    private void whole(String... texts) {
        for (String text : texts) {
            said.due("law of " + text, Due.tell(new LemonGate(), 0, text), 1);
        }
    }

    /** A text has its fault at a place, for either law. */
    private void faulty(String text, int place) {
        said.due("law 0 of " + text, Due.tell(new LemonGate(), 0, text), -100 - place);
        said.due("law 1 of " + text, Due.tell(new LemonGate(), 1, text), -100 - place);
    }

    /** What a text gives in quarter 0, as a taste. */
    private void gives(String text, int worth) {
        LemonGate x = new LemonGate();
        int told = Due.tell(x, 0, text);
        said.due("worth of " + text, told == 1 ? x.taste(0, 0, 0) : told, worth);
    }

    private void tape() {
        said.says(0, "TEXTS by THE TAPE (at most 120 bytes)");
        LemonGate x = new LemonGate();
        String longest = "1" + "+0".repeat(59) + "0";
        for (int n = 1; n <= 120; n++) {
            said.due("byte " + n, x.feed(longest.charAt(n - 1)), n);
        }
        said.due("a byte 121", x.feed('0'), FULL);
        said.due("count(1)", x.count(1), 120);
        said.due("law of 120 bytes", x.law(0), 1);
        said.due("taste", x.taste(0, 0, 0), 1);
        said.due("it is empty then", x.feed('0'), 1);
        x = new LemonGate();
        said.due("law of 120 bytes of a sign each", Due.tell(x, 0, "!" + "0+0-".repeat(29) + "0+1"), 1);
        said.due("taste", x.taste(0, 0, 0), 2);
        said.due("law of 120 bytes again", Due.tell(x, 1, "!" + "0+0-".repeat(29) + "0+2"), 1);
        said.due("buys", x.taste(0, 0, 1), 3);
    }

    private void lines() {
        said.says(0, ": LINES, one or more, parted by ; .");
        faulty("", 0);
        whole("1", "1;2", "1;2;3", "1;".repeat(59) + "12");
        faulty(";", 0);
        faulty(";1", 0);
        faulty("1;", 2);
        faulty("1;;2", 2);
        faulty("1;2;", 4);
        faulty("1,2", 1);
        said.says(0, "LINE: E, or E ? E (what counts if the first is not 0).");
        whole("1?2", "1?2;3", "1;2?3", "1?2;3?4");
        faulty("?", 0);
        faulty("?1", 0);
        faulty("1?", 2);
        faulty("1?;2", 2);
        faulty("1??2", 2);
        faulty("1?2?3", 3);
        faulty("(1?2)", 2);
        gives("1?5", 5);
        gives("0?5", 0);
        gives("0?5;6", 6);
        gives("-1?5;6", 5);
    }

    private void expressions() {
        said.says(0, "E = A { | A }.");
        whole("1|2", "1|2|3", "1&2|3");
        faulty("|1", 0);
        faulty("1|", 2);
        faulty("1||2", 2);
        gives("0|0", 0);
        gives("0|0|7", 1);
        said.says(0, "A = B { & B }.");
        whole("1&2", "1&2&3", "1<2&3");
        faulty("&1", 0);
        faulty("1&", 2);
        faulty("1&&2", 2);
        gives("7&7&0", 0);
        gives("1|0&0", 1);
        gives("0&0|1", 1);
        said.says(0, "B = S, or S < S, S = S, S > S.");
        whole("1<2", "1=2", "1>2", "(1<2)<3", "1<(2<3)", "1<2&2<3", "1<2|2<3");
        faulty("1<2<3", 3);
        faulty("1=2=3", 3);
        faulty("1>2<3", 3);
        faulty("1+1<2+2=3", 7);
        faulty("<1", 0);
        faulty("1<", 2);
        faulty("1<=2", 2);
        gives("2<2", 0);
        gives("1<2", 1);
        gives("2=2", 1);
        gives("2=1", 0);
        gives("2>2", 0);
        gives("2>1", 1);
        gives("1+1=2", 1);
        said.says(0, "S = P { + P, - P }.");
        whole("1+2", "1-2", "1+2-3+4");
        faulty("+1", 0);
        faulty("1+", 2);
        faulty("1++2", 2);
        gives("9-3-2", 4);
        gives("9-3+2", 8);
        said.says(0, "P = O { * O, / O, % O }.");
        whole("1*2", "1/2", "1%2", "1*2/3%4");
        faulty("*1", 0);
        faulty("1*", 2);
        faulty("1**2", 2);
        faulty("1%%2", 2);
        gives("2+3*2", 8);
        gives("8/4*3", 6);
        gives("9%5*2", 8);
        gives("7*8%9", 2);
    }

    private void operands() {
        said.says(0, "O = a number (1 to 4 digits), a NAME, ! O, - O, ( E ).");
        whole("0", "9", "10", "100", "1000", "9999", "0000", "l", "!l", "-l", "(l)", "!-(l)");
        faulty("12345", 4);
        faulty("00000", 4);
        faulty("1+12345", 6);
        faulty("()", 1);
        faulty("(1", 2);
        faulty("(1;2)", 2);
        faulty("1)", 1);
        faulty("(1))", 3);
        faulty("!", 1);
        faulty("-", 1);
        faulty("1!", 1);
        faulty("1(2)", 1);
        faulty("(1)2", 3);
        faulty("l2", 1);
        faulty("2l", 1);
        faulty("ll", 1);
        gives("0007", 7);
        faulty("9999=10000-1", 9);
        gives("9999=5000+4999", 1);
        gives("2*(3-(1+1))", 2);
        gives("!3+4", 4);
        gives("!(3-3)", 1);
        gives("-3+7", 4);
        gives("--4", 4);
        said.says(0, "No blanks.");
        faulty(" 1", 0);
        faulty("1 ", 1);
        faulty("1 + 2", 1);
        faulty("1+ 2", 2);
        faulty("1\n", 1);
    }

    private void names() {
        said.says(0, "NAMES: l LEMONS, s SUGAR, g GLASSES, a AGE of the JUG in QUARTERS, h HEAT, t TASTE,"
                + " p PRICE, b the BOY's, q the QUARTER.");
        String all = "lsgahtpbq";
        for (int letter = 0; letter <= 255; letter++) {
            LemonGate x = new LemonGate();
            said.due("feed(" + letter + ")", x.feed(letter), 1);
            boolean isOne = all.indexOf(letter) >= 0 || letter >= '0' && letter <= '9';
            boolean goesOn = "(!-".indexOf(letter) >= 0;
            said.due("law of byte " + letter, x.law(0), isOne ? 1 : goesOn ? -101 : -100);
        }
        int[] told = {4, 2, 13, 29, 31};
        int[] whats = {0, 1, 2, 3, 4};
        LemonGate x = new LemonGate();
        for (int i = 0; i < told.length; i++) {
            x.mend(whats[i], told[i]);
        }
        x.heat(31, 38);
        x.mend(5, 32);
        String[] worths = {"l=4", "s=2", "g=13", "a=30", "h=38", "p=29", "b=31", "q=31"};
        for (String worth : worths) {
            Due.tell(x, 0, worth + "?8;1");
            said.due(worth, x.taste(31, 30, 0), 8);
            Due.tell(x, 1, worth + "?8;1");
            said.due(worth + " of a passer", x.taste(31, 30, 1), 8);
        }
        Due.tell(x, 0, "7");
        Due.tell(x, 1, "t=7?8;1");
        said.due("t of a passer", x.taste(31, 30, 1), 8);
        said.due("t of a passer by a sour jug", x.taste(31, 32, 1), 1);
        Due.tell(x, 1, "a");
        said.due("a of an age of 0", x.taste(31, 0, 1), 0);
        said.due("a of an age of 12", x.taste(31, 12, 1), 12);
    }

    private void open() {
        said.says(0, "At most 6 of ( ! - ahead of an O are open at once.");
        String[] signs = {"!", "-", "("};
        for (String sign : signs) {
            String six = sign.repeat(6) + "1" + (sign.equals("(") ? "))))))" : "");
            whole(six, "1?" + six, six + "?1", "0;" + six, six + "+" + six, six + "&" + six + "<" + six, "(1)*" + six);
            faulty(sign + six, 6);
            faulty("1?" + sign + six, 8);
            faulty("1+" + sign + six, 8);
            faulty("1&" + sign + six, 8);
            faulty("1|" + sign + six, 8);
            faulty("1<" + sign + six, 8);
            faulty("1%" + sign + six, 8);
            faulty("0;" + sign + six, 8);
            faulty("(1)+" + sign + six, 10);
        }
        whole("!-(!-(1))", "(((((-1)))))", "(!(-(!1)))", "((((((1-1-1))))))", "1-1-1-1-1-1-1-1");
        faulty("((((((-1", 6);
        faulty("!-(!-(!1))", 6);
        faulty("(1+(1*(1|(1<(1&(1-(1", 18);
        faulty("((((((1)))))+(((((-1", 18);
        whole("((((((1)))))+(((((1))))))");
    }

    private void ints() {
        said.says(0, "Ints that wrap; / and % toward 0, by 0 they give 0; | & < = > ! give 1, 0; all is worked out.");
        String least = "(4096*4096*128)";
        gives(least + "<0", 1);
        gives(least + "-1>0", 1);
        gives("-" + least + "=" + least, 1);
        gives(least + "/-1=" + least, 1);
        gives(least + "%-1", 0);
        gives(least + "+" + least, 0);
        gives("4096*4096*256+5", 5);
        gives("7/2", 3);
        gives("-7/2+9", 6);
        gives("7/-2+9", 6);
        gives("-7/-2", 3);
        gives("7%4", 3);
        gives("-7%4+9", 6);
        gives("7%-4", 3);
        gives("-7%-4+9", 6);
        gives("7/0", 0);
        gives("7%0", 0);
        gives("0/0+4", 4);
        gives("5+7/(3-3)", 5);
        gives("5+7%(3-3)", 5);
        gives("6|0", 1);
        gives("0|6", 1);
        gives("6&5", 1);
        gives("6&0", 0);
        gives("0&6", 0);
        gives("!6", 0);
        gives("!-6", 0);
        gives("!0", 1);
        // what gives 0 gives neither less nor more
        String[] zeros = {"(2<2)", "(3<2)", "(2=3)", "(2>2)", "(2>3)", "(0|0)", "(5&0)", "(0&5)", "!5", "(7/0)", "(7%0)"};
        for (String zero : zeros) {
            gives("5+" + zero, 5);
            gives("5-" + zero, 5);
        }
        String[] ones = {"(2<3)", "(3=3)", "(3>2)", "(5|0)", "(0|5)", "(5&7)", "!0"};
        for (String one : ones) {
            gives("5+" + one, 6);
        }
        gives("1|1/0", 1);
        gives("0&1/0", 0);
    }

    private void firstLine() {
        said.says(0, "The first LINE without a first E, or whose first E is not 0, counts; none: 0.");
        gives("4", 4);
        gives("4;5", 4);
        gives("0;5", 0);
        gives("1?4;5", 4);
        gives("1?0;5", 0);
        gives("0?4;5;6", 5);
        gives("0?4;0?5;6?7;8", 7);
        gives("0?4", 0);
        gives("0?4;0?5", 0);
        gives("0?4;".repeat(29) + "0?4", 0);
        gives("0?4;".repeat(29) + "1?4", 4);
    }

    private void fault() {
        said.says(0, "FAULT: the place (from 0) of the first byte with which no TEXT goes on; the length, if it ends too early.");
        faulty("x", 0);
        faulty("1x+(", 1);
        faulty("1+x", 2);
        faulty("1+2;3x", 5);
        faulty("(1+2", 4);
        faulty("1+", 2);
        faulty("", 0);
        faulty("0" + "+1".repeat(59) + "x", 119);
        faulty("0" + "+1".repeat(59) + "+", 120);
        faulty("1?".repeat(60), 3);
        faulty("1\u0000", 1);
        faulty("\u00ff", 0);
    }

    private void lawTaste() {
        said.says(0, "LAW 0 TASTE (t 0; held within 0 .. 9; 0, if AGE is SOUR or more); without a text l and s less g by 3 (cut).");
        gives("t", 0);
        gives("t+9", 9);
        gives("9", 9);
        gives("10", 9);
        gives("9999", 9);
        gives("0", 0);
        gives("-1", 0);
        gives("0-9999", 0);
        LemonGate x = new LemonGate();
        Due.tell(x, 0, "6");
        int[][] ages = {{0, 6}, {7, 6}, {8, 0}, {9, 0}, {31, 0}, {32, 0}};
        for (int[] a : ages) {
            said.due("of age " + a[0], x.taste(0, a[0], 0), a[1]);
        }
        x.mend(5, 1);
        said.due("SOUR 1, of age 0", x.taste(0, 0, 0), 6);
        said.due("SOUR 1, of age 1", x.taste(0, 1, 0), 0);
        x.mend(5, 32);
        said.due("SOUR 32, of age 31", x.taste(0, 31, 0), 6);
        said.due("SOUR 32, of age 32", x.taste(0, 32, 0), 0);
        x = new LemonGate();
        int[][] cuts = {{1, 6}, {2, 6}, {3, 5}, {5, 5}, {6, 4}, {8, 4}, {9, 3}, {17, 1}, {18, 0}, {20, 0}};
        for (int[] c : cuts) {
            x.mend(2, c[0]);
            said.due("3 and 3 less " + c[0] + " by 3", x.taste(0, 0, 0), c[1]);
        }
        said.due("sour without a text", x.taste(0, 8, 0), 0);
        x.mend(0, 0);
        said.due("held at 0 without a text", x.taste(0, 0, 0), 0);
        x.mend(0, 9);
        x.mend(1, 9);
        x.mend(2, 1);
        said.due("held at 9 without a text", x.taste(0, 0, 0), 9);
        said.due("sour without a text", x.taste(0, 8, 0), 0);
    }

    private void lawBuys() {
        said.says(0, "LAW 1 BUYS: in how many of twelve a passer buys (held within 0 .. 12);"
                + " without: t and h by 5 (cut), less p by 4 (cut), and b by 4 (cut).");
        LemonGate x = new LemonGate();
        String[] texts = {"12", "13", "9999", "0", "-1", "0-9999", "11"};
        int[] buys = {12, 12, 12, 0, 0, 0, 11};
        for (int i = 0; i < texts.length; i++) {
            Due.tell(x, 1, texts[i]);
            said.due("by " + texts[i], x.taste(0, 0, 1), buys[i]);
        }
        x = new LemonGate();
        // 3 and 4 less 2
        said.due("without a text", x.taste(0, 0, 1), 5);
        int[][] heats = {{0, 1}, {4, 1}, {5, 2}, {9, 2}, {39, 8}, {40, 9}};
        for (int[] h : heats) {
            x.heat(0, h[0]);
            said.due("heat " + h[0], x.taste(0, 0, 1), h[1]);
        }
        int[][] prices = {{0, 11}, {3, 11}, {4, 10}, {7, 10}, {8, 9}, {43, 1}, {44, 0}, {47, 0}, {50, 0}};
        for (int[] p : prices) {
            x.mend(3, p[0]);
            said.due("price " + p[0], x.taste(0, 0, 1), p[1]);
        }
        int[][] boys = {{3, 0}, {4, 0}, {7, 0}, {8, 1}, {49, 11}, {50, 11}};
        for (int[] b : boys) {
            x.mend(4, b[0]);
            said.due("the boy's " + b[0], x.taste(0, 0, 1), b[1]);
        }
        x.mend(3, 40);
        said.due("the boy's 50, price 40", x.taste(0, 0, 1), 12);
        x.mend(3, 0);
        said.due("held at 12 without a text", x.taste(0, 0, 1), 12);
        said.due("a sour one", new LemonGate().taste(0, 8, 1), 2);
    }

    private void feed() {
        said.says(9, "A byte (0 .. 255) comes to THE TAPE: how many it has. BAD, FULL (120).");
        LemonGate x = new LemonGate();
        int[] bad = {-1, 256, LEAST, MOST};
        for (int letter : bad) {
            said.due("feed(" + letter + ") to none", x.feed(letter), BAD);
        }
        said.due("count(1)", x.count(1), 0);
        said.due("feed(0)", x.feed(0), 1);
        said.due("feed(255)", x.feed(255), 2);
        for (int n = 3; n <= 120; n++) {
            said.due("feed", x.feed('1'), n);
        }
        said.due("feed to 120", x.feed('1'), FULL);
        for (int letter : bad) {
            said.due("bad is named first: feed(" + letter + ")", x.feed(letter), BAD);
        }
        said.due("count(1)", x.count(1), 120);
    }

    private void law() {
        said.says(10, "THE TAPE becomes LAW which (0, 1): 1; -100 less its FAULT; THE TAPE is empty then. BAD (it stays).");
        LemonGate x = new LemonGate();
        x.feed('8');
        int[] bad = {-1, 2, LEAST, MOST};
        for (int which : bad) {
            said.due("law(" + which + ")", x.law(which), BAD);
            said.due("it stays", x.count(1), 1);
        }
        said.due("law(0)", x.law(0), 1);
        said.due("it is empty then", x.count(1), 0);
        said.due("taste", x.taste(0, 0, 0), 8);
        said.due("buys without a text: 8 and 4 less 2", x.taste(0, 0, 1), 10);
        said.due("law(0) of an empty tape", x.law(0), -100);
        said.due("the law stays", x.taste(0, 0, 0), 8);
        said.due("law(1) of an empty tape", x.law(1), -100);
        said.due("no law came", x.taste(0, 0, 1), 10);
        said.due("law(0) of x", Due.tell(x, 0, "x"), -100);
        said.due("the law stays", x.taste(0, 0, 0), 8);
        said.due("law(0) of 7;x", Due.tell(x, 0, "7;x"), -102);
        said.due("it is empty then", x.count(1), 0);
        said.due("the law stays", x.taste(0, 0, 0), 8);
        said.due("law(1)", Due.tell(x, 1, "3"), 1);
        said.due("it is empty then", x.count(1), 0);
        said.due("buys", x.taste(0, 0, 1), 3);
        said.due("law(1) of 4+", Due.tell(x, 1, "4+"), -102);
        said.due("the law stays", x.taste(0, 0, 1), 3);
        said.due("another one", Due.tell(x, 1, "5"), 1);
        said.due("buys", x.taste(0, 0, 1), 5);
        said.due("law 0 is its own", x.taste(0, 0, 0), 8);
    }

    private void taste() {
        said.says(11, "TASTE (what 0), BUYS (1) of a JUG of an AGE (0 .. 32) in a QUARTER. BAD.");
        LemonGate x = new LemonGate();
        x.heat(31, 40);
        said.due("taste(0, 0, 0)", x.taste(0, 0, 0), 3);
        said.due("taste(31, 0, 0)", x.taste(31, 0, 0), 3);
        said.due("taste(31, 32, 0)", x.taste(31, 32, 0), 0);
        said.due("taste(0, 0, 1)", x.taste(0, 0, 1), 5);
        said.due("taste(31, 0, 1)", x.taste(31, 0, 1), 9);
        said.due("taste(31, 32, 1)", x.taste(31, 32, 1), 6);
        int[][] bad = {{-1, 0, 0}, {32, 0, 0}, {LEAST, 0, 0}, {MOST, 0, 0}, {0, -1, 0}, {0, 33, 0}, {0, LEAST, 1}, {0, MOST, 1},
            {0, 0, -1}, {0, 0, 2}, {0, 0, LEAST}, {0, 0, MOST}};
        for (int[] b : bad) {
            said.due("taste(" + b[0] + ", " + b[1] + ", " + b[2] + ")", x.taste(b[0], b[1], b[2]), BAD);
        }
    }
}
