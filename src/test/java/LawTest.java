/** Promises 9 to 11: feed, law, taste. */
public final class LawTest {
    private static final Due D = new Due();
    private static final int BAD = LemonGate.BAD;

    public static void main(String[] args) {
        feed();
        law();
        faults();
        signs();
        names();
        lines();
        taste();
        buys();
        D.end();
    }

    private static void feed() {
        LemonGate x = new LemonGate();
        D.due("feed(-1)", x.feed(-1), BAD);
        D.due("feed(256)", x.feed(256), BAD);
        for (int n = 1; n <= 120; n++) {
            D.due("feed", x.feed(n % 2 == 0 ? 0 : 255), n);
        }
        D.due("full", x.feed('1'), LemonGate.FULL);
        D.due("bad first", x.feed(256), BAD);
        D.due("count(1)", x.count(1), 120);
        D.due("law(2)", x.law(2), BAD);
        D.due("law(-1)", x.law(-1), BAD);
        D.due("it stays", x.count(1), 120);
        D.due("law(0)", x.law(0), -100);
        D.due("count(1)", x.count(1), 0);
    }

    private static void law() {
        LemonGate x = new LemonGate();
        D.due("law 0 is 7", Due.tell(x, 0, "7"), 1);
        D.due("taste", x.taste(0, 0, 0), 7);
        D.due("buys without a text", x.taste(0, 0, 1), 9);
        D.due("a fault", Due.tell(x, 0, "8+"), -102);
        D.due("the tape is empty", x.count(1), 0);
        D.due("the law stays", x.taste(0, 0, 0), 7);
        D.due("law 1 is 12", Due.tell(x, 1, "12"), 1);
        D.due("buys", x.taste(0, 0, 1), 12);
        D.due("taste", x.taste(0, 0, 0), 7);
        String longest = "1" + "+0".repeat(59) + "0";
        D.due("120 bytes", longest.length(), 120);
        D.due("all of the tape", Due.tell(x, 0, longest), 1);
        D.due("taste", x.taste(0, 0, 0), 1);
        D.due("120 bytes, each a step", Due.tell(x, 0, "!" + "0+0-".repeat(29) + "0+1"), 1);
        D.due("taste", x.taste(0, 0, 0), 2);
        D.due("minuses without an end", Due.tell(x, 0, "1-".repeat(60)), -220);
        D.due("60 lines", Due.tell(x, 0, "0?1;".repeat(29) + "0?1;"), -220);
        D.due("30 lines", Due.tell(x, 0, "0?1;".repeat(29) + "4"), 1);
        D.due("taste", x.taste(0, 0, 0), 4);
    }

    private static void faults() {
        Object[][] faults = {{"", 0}, {" ", 0}, {";", 0}, {"1;", 2}, {"1;;", 2}, {"1?", 2}, {"1?2?3", 3}, {"1?;", 2},
            {"12345", 4}, {"1234", -1}, {"0000", -1}, {"00000", 4}, {"1 ", 1}, {"x", 0}, {"l2", 1}, {"lg", 1}, {"2l", 1},
            {"1<2<3", 3}, {"1<2=3", 3}, {"1<2&3<4", -1}, {"(1<2)<3", -1}, {"1<(2", 4}, {"(1", 2}, {"()", 1}, {"1)", 1},
            {"(1;2)", 2}, {"(1?2)", 2}, {"+1", 0}, {"1+", 2}, {"1++2", 2}, {"1+-2", -1}, {"1--2", -1}, {"1-!2", -1},
            {"!!!!!!1", -1}, {"!!!!!!!1", 6}, {"------1", -1}, {"-------1", 6}, {"((((((1))))))", -1}, {"(((((((1", 6},
            {"(!-(!-1))", -1}, {"(!-(!-!1))", 6}, {"(!-(!-(1", 6}, {"-1-1-1-1-1-1-1-1-1", -1}, {"(1)(1)", 3}, {"1!", 1},
            {"(1)+(2)+(3)+(4)+(5)+(6)+(7)", -1}, {"!1+!1+!1+!1+!1+!1+!1", -1}, {"!!!!!!1+!!!!!!1", -1}, {"!!!!!!1+!!!!!!!1", 14},
            {"((((((1)))))+((((((2", 18}, {"1|", 2}, {"1||2", 2}, {"1&&2", 2}, {"1&", 2}, {"L", 0}, {"1==2", 2}, {"1<>2", 2},
            {"1%2", -1}, {"l+s+g+a+h+t+p+b+q", -1}, {"c", 0}, {"1.", 1}, {"\u0000", 0}, {"1\u00ff", 1}};
        for (Object[] f : faults) {
            int fault = (Integer) f[1];
            D.due("law of " + f[0], Due.tell(new LemonGate(), 0, (String) f[0]), fault < 0 ? 1 : -100 - fault);
            D.due("law 1 of " + f[0], Due.tell(new LemonGate(), 1, (String) f[0]), fault < 0 ? 1 : -100 - fault);
        }
    }

    private static void signs() {
        Object[][] worths = {{"1+2*3", 7}, {"(1+2)*3", 9}, {"9-3-2", 4}, {"9-(3-2)", 8}, {"2-9+10", 3}, {"8/3", 2}, {"8%3", 2},
            {"-8/3+9", 7}, {"-8%3+9", 7}, {"8/-3+9", 7}, {"7/0", 0}, {"7%0+1", 1}, {"8/2*3/4", 3}, {"7-8/2*2", 0}, {"1|0", 1},
            {"0|0", 0}, {"5|0", 1}, {"5&3", 1}, {"5&0", 0}, {"0&0|1", 1}, {"1|0&0", 1}, {"7", 7}, {"2<3", 1}, {"3<3", 0},
            {"3=3", 1}, {"3=4", 0}, {"4>3", 1}, {"3>3", 0}, {"1+1<3", 1}, {"2<1+1", 0}, {"2<1|3", 1}, {"!0", 1}, {"!7", 0},
            {"!!7", 1}, {"!-1", 0}, {"-!0+5", 4}, {"!0+3", 4}, {"!3=0", 1}, {"-2*-3", 6}, {"--5", 5}, {"0005", 5}, {"9999/1111", 9},
            {"9999*9999*9999*9999*9999*9999%10+9", 2}, {"0-9999*9999*9999*9999*9999*9999*9999>0", 0}, {"12-3", 9}, {"10", 9},
            {"0-1", 0}, {"-5", 0}, {"1&2<3", 1}, {"6|0>1", 1}, {"3-!0-!0", 1}, {"5-3*2+4", 3}, {"2*(3-(1+1))", 2}, {"1>0=1", -103}};
        for (Object[] w : worths) {
            LemonGate x = new LemonGate();
            int answer = Due.tell(x, 0, (String) w[0]), worth = (Integer) w[1];
            D.due("worth of " + w[0], answer == 1 ? x.taste(0, 0, 0) : answer, worth);
        }
        LemonGate x = new LemonGate();
        // the least int by -1 wraps to itself, and its rest is 0
        String least = "(4096*4096*128)";
        D.due("least by -1", Due.tell(x, 0, least + "/-1=" + least + "&" + least + "%-1=0&" + least + "<0"), 1);
        D.due("taste", x.taste(0, 0, 0), 1);
    }

    private static void names() {
        LemonGate x = new LemonGate();
        x.heat(17, 38);
        x.mend(0, 4);
        x.mend(1, 2);
        x.mend(2, 13);
        x.mend(3, 29);
        x.mend(4, 31);
        String all = "l=4&s=2&g=13&a=5&h=38&t=0&p=29&b=31&q=17";
        D.due("names", Due.tell(x, 0, all + "?6;9"), 1);
        D.due("taste", x.taste(17, 5, 0), 6);
        D.due("another quarter", x.taste(16, 5, 0), 9);
        D.due("another age", x.taste(17, 4, 0), 9);
        D.due("names", Due.tell(x, 1, all.replace("t=0", "t=6") + "?11;1"), 1);
        D.due("buys", x.taste(17, 5, 1), 11);
        D.due("another age", x.taste(17, 6, 1), 1);
        x.mend(4, 30);
        D.due("another price", x.taste(17, 5, 1), 1);
    }

    private static void lines() {
        LemonGate x = new LemonGate();
        D.due("law", Due.tell(x, 0, "q<3?5;q<6?6;q>9?7"), 1);
        D.due("first line", x.taste(2, 0, 0), 5);
        D.due("second line", x.taste(3, 0, 0), 6);
        D.due("third line", x.taste(10, 0, 0), 7);
        D.due("no line", x.taste(9, 0, 0), 0);
        D.due("law", Due.tell(x, 0, "q=1?3;4;q=2?5"), 1);
        D.due("first line", x.taste(1, 0, 0), 3);
        D.due("the one that always counts", x.taste(2, 0, 0), 4);
        D.due("law", Due.tell(x, 0, "0-2?8;1"), 1);
        D.due("below 0 is not 0", x.taste(0, 0, 0), 8);
        D.due("law", Due.tell(x, 0, "1?0;9"), 1);
        D.due("0 counts", x.taste(0, 0, 0), 0);
        D.due("law", Due.tell(x, 0, "0;9"), 1);
        D.due("0 counts", x.taste(0, 0, 0), 0);
    }

    private static void taste() {
        LemonGate x = new LemonGate();
        int[][] bad = {{-1, 0, 0}, {32, 0, 0}, {0, -1, 0}, {0, 33, 0}, {0, 0, -1}, {0, 0, 2}, {Integer.MIN_VALUE, 0, 0}};
        for (int[] b : bad) {
            D.due("taste bad", x.taste(b[0], b[1], b[2]), BAD);
        }
        D.due("less g by 3", x.taste(0, 0, 0), 3);
        x.mend(2, 8);
        D.due("cut", x.taste(0, 0, 0), 4);
        x.mend(0, 9);
        x.mend(1, 9);
        D.due("at most 9", x.taste(0, 0, 0), 9);
        x.mend(0, 0);
        x.mend(1, 1);
        D.due("at least 0", x.taste(0, 0, 0), 0);
        D.due("law", Due.tell(x, 0, "5"), 1);
        D.due("not yet sour", x.taste(31, 7, 0), 5);
        D.due("sour", x.taste(31, 8, 0), 0);
        D.due("sour", x.taste(31, 32, 0), 0);
        x.mend(5, 32);
        D.due("not yet sour", x.taste(0, 31, 0), 5);
        D.due("sour", x.taste(0, 32, 0), 0);
    }

    private static void buys() {
        LemonGate x = new LemonGate();
        x.heat(4, 34);
        D.due("3 + 6 - 2", x.taste(4, 0, 1), 7);
        D.due("sour: 0 + 6 - 2", x.taste(4, 8, 1), 4);
        D.due("the last quarter at the last age: 0 + 4 - 2", x.taste(31, 32, 1), 2);
        x.mend(3, 29);
        D.due("3 + 6 - 7", x.taste(4, 0, 1), 2);
        x.mend(4, 23);
        D.due("3 + 6 - 7 + 5", x.taste(4, 0, 1), 7);
        x.mend(3, 10);
        D.due("3 + 6 - 2 + 5", x.taste(4, 0, 1), 12);
        x.mend(4, 50);
        D.due("at most 12", x.taste(4, 0, 1), 12);
        x.mend(4, 0);
        x.mend(3, 50);
        D.due("at least 0", x.taste(4, 0, 1), 0);
        x.mend(3, 15);
        D.due("3 + 6 - 3", x.taste(4, 0, 1), 6);
        D.due("law", Due.tell(x, 1, "t*2+1"), 1);
        D.due("t of the taste", x.taste(4, 0, 1), 7);
        D.due("t 0 when sour", x.taste(4, 8, 1), 1);
        D.due("law", Due.tell(x, 1, "13"), 1);
        D.due("at most 12", x.taste(4, 0, 1), 12);
        D.due("law", Due.tell(x, 0, "t+1"), 1);
        D.due("t is 0 for the taste, after another one too", x.taste(4, 0, 0), 1);
    }
}
