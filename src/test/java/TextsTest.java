/** Promises 5 to 8: feed, text, force, asks. */
public final class TextsTest {
    private static final int BAD = -2;
    private static final int FULL = -4;
    private static final String REST = ";shrinks 2;calls 3;";

    public static void main(String[] args) {
        feed();
        textNumbers();
        textFull();
        faultsOfOrder();
        faultsOfTokens();
        faultsOfEnds();
        faultsOfDepth();
        depthThatStands();
        values();
        wrapping();
        names();
        blanks();
        force();
        asksBounds();
        asksWrong();
        Due.end();
    }

    private static void feed() {
        DrainedForAThird x = new DrainedForAThird();
        Due.is("feed(-1)", x.feed(-1), BAD);
        Due.is("feed(256)", x.feed(256), BAD);
        Due.is("feed(0)", x.feed(0), 1);
        Due.is("feed(255)", x.feed(255), 2);
        for (int i = 3; i <= 160; i++) {
            Due.is("feed " + i, x.feed(32), i);
        }
        Due.is("feed 161", x.feed(32), FULL);
        Due.is("feed 161, wrong: BAD ahead of FULL", x.feed(256), BAD);
        Due.is("bytes", x.count(6), 160);
        Due.is("text", x.text(), -100);
        Due.is("bytes behind a FAULT", x.count(6), 0);
        Due.is("feed again", x.feed(7), 1);
    }

    private static void textNumbers() {
        DrainedForAThird x = new DrainedForAThird();
        for (int t = 1; t <= 5; t++) {
            Due.is("text " + t, Due.read(x, "rains " + t + REST), t);
            Due.is("THE TAPE behind it", x.count(6), 0);
            Due.is("TEXTS", x.count(5), t + 1);
        }
        for (int t = 1; t <= 5; t++) {
            Due.is("force", x.force(t), t - 1);
            Due.is("rains", x.asks(0, 0), t);
        }
    }

    private static void textFull() {
        DrainedForAThird x = new DrainedForAThird();
        for (int t = 1; t <= 5; t++) {
            Due.read(x, "rains 1" + REST);
        }
        Due.is("no room", Due.read(x, "rains 1" + REST), FULL);
        Due.is("THE TAPE stays", x.count(6), 26);
        Due.is("no room, though it has a FAULT", Due.read(x, "x"), FULL);
        Due.is("THE TAPE stays still", x.count(6), 27);
        Due.is("TEXTS", x.count(5), 6);
    }

    private static void fault(String text, int place) {
        DrainedForAThird x = new DrainedForAThird();
        Due.is("text \"" + text + "\"", Due.read(x, text), -100 - place);
        Due.is("TEXTS behind \"" + text + "\"", x.count(5), 1);
        Due.is("THE TAPE behind \"" + text + "\"", x.count(6), 0);
    }

    /** A FAULT in what rains, at a place behind "rains ". */
    private static void faultIn(String e, int place) {
        fault("rains " + e + REST, 6 + place);
    }

    private static void faultsOfOrder() {
        fault("shrinks 2;calls 3;rains 6;", 0);
        fault("rains 6;calls 3;shrinks 2;", 8);
        fault("rains 6;shrinks 2;shrinks 3;", 18);
        fault("rains 6;shrinks 2;calls 3;;", 26);
        fault("rains 6;shrinks 2;calls 3; 7", 27);
        fault("rains 6 shrinks 2;calls 3;", 8);
        fault("rains;shrinks 2;calls 3;", 5);
        fault("6;", 0);
        fault("height", 0);
        fault("rains rains 6;", 6);
        fault("rains 6;;", 8);
        faultIn("6 7", 2);
        faultIn("6 height", 2);
        faultIn("1<2<3", 3);
        faultIn("1=2=3", 3);
        faultIn("1<2=3", 3);
        faultIn("1+not 2", 2);
        faultIn("1<not 2", 2);
        faultIn("-not 2", 1);
        faultIn("not", 3);
        faultIn("1 or", 4);
        faultIn("1 and or 2", 6);
        faultIn("+1", 0);
        faultIn("1++2", 2);
        faultIn("1**2", 2);
        faultIn("1*+2", 2);
        faultIn("<1", 0);
        faultIn("()", 1);
        faultIn("(1", 2);
        faultIn("1)", 1);
        faultIn("(1))", 3);
        faultIn("(1;2)", 2);
        faultIn("calls", 0);
    }

    private static void faultsOfTokens() {
        faultIn("12345", 0);
        faultIn("1+00000", 2);
        faultIn("1 + 99999999999999999999", 4);
        faultIn("heights", 0);
        faultIn("heigh", 0);
        faultIn("bear", 0);
        faultIn("yearz", 0);
        faultIn("(x 1))", 1);
        faultIn("1+x", 2);
        faultIn("Height", 0);
        faultIn("1 ? 2", 2);
        faultIn("1+\t2", 2);
        faultIn("1+\r2", 2);
        faultIn("1 > 2", 2);
        faultIn("1/2", 1);
        faultIn("1\u00002", 1);
        faultIn("1\u00ff", 1);
        fault("rainss 6", 0);
        fault("rains 6;shrinks 2;calls 3;\u00e9", 26);
        fault("rains height12345;", 12);
        fault("?", 0);
    }

    private static void faultsOfEnds() {
        fault("", 0);
        fault("  \n ", 4);
        fault("rains", 5);
        fault("rains 6", 7);
        fault("rains 6  ", 9);
        fault("rains 6;shrinks 2;calls 3", 25);
        fault("rains 6;shrinks 2;calls 3 \n", 27);
        fault("rains (6", 8);
        fault("rains 6+", 8);
        fault("rains not ", 10);
    }

    private static void faultsOfDepth() {
        faultIn("((((((1))))))", 5);
        faultIn("------1", 5);
        faultIn("not not not not not not 1", 20);
        faultIn("not(not(-(1)))", 9);
        faultIn("(-(not(-(1))))", 7);
        faultIn("not(-(not(-1)))", 9);
        faultIn("(((((-1)))))", 5);
        faultIn("(((((not 1)))))", 5);
        faultIn("not not not not not -1", 20);
        faultIn("not not not not not (1)", 20);
        faultIn("not not not not -1+-(1)", 20);
        faultIn("-----(1)", 5);
    }

    private static void stands(String e, int value) {
        DrainedForAThird x = Due.ruled("rains " + e + REST);
        Due.is("rains " + e, x.asks(0, 0), value);
    }

    private static void depthThatStands() {
        stands("(((((1)))))", 1);
        stands("-----1", 0);
        stands("7-----1", 6);
        stands("not not not not not 0", 1);
        stands("not(not(-1))", 1);
        stands("(((((1)))))+(((((1)))))", 2);
        stands("----1+----1*----3", 4);
        stands("not -1 or not -0", 1);
        stands("not 0 and not 0 and not 0 and not 0 and not 0 and not 0 and not 0", 1);
        stands("(0)or(0)or(0)or(0)or(0)or(0)or(4)", 1);
        stands("not not not not -1+-1<2", 1);
        stands("not not not not (1)-(1)", 0);
        stands("1or 1and 1<1+1*(1or 1and 1<1+1*(1or 1and 1<1+1*(1or 1and 1<1+1*(1or 1and 1<1+1*(0or 1and 1<1+1*5)))))", 1);
        stands("0or 1and-9<1+2*(3*(0or 1and-9<1+2*(0or 1and 9<1+2*(0or 1and 9<1+2*(0or 1and 1<1+2*5)))))", 1);
        stands("1+2*(1+2*(1+2*(1+2*(1+2*(1+1)))))", 95);
    }

    private static void values() {
        stands("0", 0);
        stands("99", 99);
        stands("0099", 99);
        stands("2+3*4", 14);
        stands("(2+3)*4", 20);
        stands("20-3-4", 13);
        stands("20-(3-4)", 21);
        stands("2*3*4-5*2", 14);
        stands("- 3 + 10", 7);
        stands("-3*-4", 12);
        stands("2--3", 5);
        stands("1<2", 1);
        stands("2<2", 0);
        stands("3<2", 0);
        stands("-1<0", 1);
        stands("2=2", 1);
        stands("2=3", 0);
        stands("1+1=2", 1);
        stands("2*2<5-1", 0);
        stands("7 or 0", 1);
        stands("0 or 0", 0);
        stands("0 or -3", 1);
        stands("7 and 8", 1);
        stands("7 and 0", 0);
        stands("0 and 7", 0);
        stands("1 or 0 and 0", 1);
        stands("(1 or 0) and 0", 0);
        stands("0 and 0 or 1", 1);
        stands("not 0", 1);
        stands("not 7", 0);
        stands("not -1", 0);
        stands("not 1 = 0", 1);
        stands("not 0 and 0", 0);
        stands("not (0 and 0)", 1);
        stands("not 1 or 1", 1);
        stands("not 5-5", 1);
        stands("1 and 2 and 3", 1);
        stands("0 or 0 or 4", 1);
        stands("10*(3<4)+(2=2)", 11);
    }

    private static void wrapping() {
        stands("9999*9999*9999*9999<0", 0);
        stands("9999*9999*22<0", 1);
        stands("(1-9999*9999*22)<0", 0);
        stands("9999*9999*9999=-(1027*1000*1000+349*1000+969)", 1);
        // 65536 times itself is 0 in 32 bits.
        stands("4096*16*4096*16", 0);
        stands("4096*16*4096*16+5", 5);
        // 2 to the 31 is below 0, and its own opposite.
        stands("4096*4096*128<0", 1);
        stands("-(4096*4096*128)<0", 1);
        stands("4096*4096*128-1<0", 0);
    }

    private static void names() {
        DrainedForAThird x = Due.ruled("rains height+peat*2;shrinks year*10+number;calls water+cell*3;");
        x.set(2, 4, 11);
        x.set(3, 4, 13);
        x.set(1, 0, 1);
        x.set(4, 4, 17);
        Due.is("height and peat", x.asks(0, 4), 37);
        Due.is("year, no works", x.asks(1, 4), 10);
        x.work(0, 9, 4);
        x.work(0, 9, 4);
        x.work(0, 9, 3);
        x.set(7, 1, 0);
        Due.is("works that stand there, going or not", x.asks(1, 4), 12);
        Due.is("works elsewhere", x.asks(1, 3), 11);
        Due.is("none there", x.asks(1, 5), 10);
        Due.is("water and cell", x.told(0, 10), 29);
        Due.is("of another cell", x.told(2, 10), 14);
        DrainedForAThird y = Due.ruled("rains cell+water*10;shrinks peat-height*0;calls number;");
        Due.is("cell 11", y.asks(0, 11), 61);
        Due.is("cell 0", y.asks(0, 0), 50);
        Due.is("peat", y.asks(1, 0), 20);
    }

    private static void blanks() {
        stands("\n 4 \n+\n\n1 ", 5);
        stands("4+1", 5);
        stands("1or 0and 0", 1);
        DrainedForAThird x = Due.ruled("\n rains7;shrinks(1);calls-3; \n");
        Due.is("no blanks", x.asks(0, 0), 7);
        Due.is("no blanks, shrinks", x.asks(1, 0), 1);
    }

    private static void force() {
        DrainedForAThird x = new DrainedForAThird();
        Due.is("force(0)", x.force(0), 0);
        Due.is("force(1), none", x.force(1), BAD);
        Due.is("force(-1)", x.force(-1), BAD);
        Due.is("force(6)", x.force(6), BAD);
        Due.read(x, "rains 9" + REST);
        Due.is("a new text is not THE RULE", x.count(7), 0);
        Due.is("rains still", x.asks(0, 0), 6);
        Due.is("force(1)", x.force(1), 0);
        Due.is("THE RULE", x.count(7), 1);
        Due.is("rains", x.asks(0, 0), 9);
        Due.is("force(2), none", x.force(2), BAD);
        Due.is("force(0) again", x.force(0), 1);
        Due.is("rains again", x.asks(0, 0), 6);
    }

    private static void asksBounds() {
        DrainedForAThird x = Due.ruled("rains 100;shrinks 21;calls 3;");
        Due.is("rains 99 at most", x.asks(0, 3), 99);
        Due.is("shrinks 20 at most", x.asks(1, 3), 20);
        DrainedForAThird y = Due.ruled("rains -1;shrinks -9999;calls 3;");
        Due.is("rains 0 at least", y.asks(0, 3), 0);
        Due.is("shrinks 0 at least", y.asks(1, 3), 0);
        DrainedForAThird z = Due.ruled("rains 99;shrinks 20;calls 3;");
        Due.is("rains 99", z.asks(0, 3), 99);
        Due.is("shrinks 20", z.asks(1, 3), 20);
        z.set(3, 3, 1);
        Due.is("shrinks, though there is less peat", z.asks(1, 3), 20);
    }

    private static void asksWrong() {
        DrainedForAThird x = new DrainedForAThird();
        Due.is("asks(-1, 0)", x.asks(-1, 0), BAD);
        Due.is("asks(2, 0)", x.asks(2, 0), BAD);
        Due.is("asks(0, -1)", x.asks(0, -1), BAD);
        Due.is("asks(0, 12)", x.asks(0, 12), BAD);
        Due.is("asks(1, 12)", x.asks(1, 12), BAD);
        Due.is("asks(1, 11)", x.asks(1, 11), 2);
    }
}
