/** Promise 6: text. */
public final class Promise06TextTest {
    private static final int FULL = -4;
    private static final String REST = ";shrinks 2;calls 3;";
    private static final String SHORTEST = "rains 1;shrinks 1;calls 1;";

    public static void main(String[] args) {
        itsNumber();
        emptyThen();
        sixAtMost();
        fullAheadOfAll();
        emptyTape();
        endsTooEarly();
        faultAtFirst();
        faultAtLast();
        firstFaultOnly();
        partsInOrder();
        orderOfSigns();
        atMostOneComparison();
        notAheadOfSums();
        asLongAsCanBe();
        numbersOfFourAtMost();
        blanks();
        blanksPart();
        bytesThatBeginNone();
        foreignWords();
        keysAreNoNames();
        fiveOpen();
        fiveOpenMixed();
        openTillItEnds();
        deepest();
        wrapping();
        truth();
        joined();
        keeps();
        Due.end();
    }

    /** The TEXT is read, and by it so much rains on CELL 0. */
    private static void stands(String e, int value) {
        DrainedForAThird x = Due.ruled("rains " + e + REST);
        Due.is("rains " + e, x.asks(0, 0), value);
    }

    private static void fault(String text, int place) {
        DrainedForAThird x = new DrainedForAThird();
        Due.is("text \"" + text + "\"", Due.read(x, text), -100 - place);
        Due.is("TEXTS behind \"" + text + "\"", x.count(5), 1);
        Due.is("THE TAPE behind \"" + text + "\"", x.count(6), 0);
    }

    /** A FAULT in what rains, at a place behind "rains ". */
    private static void faultIn(String e, int place) {
        fault("rains " + e + REST, 6 + place);
    }

    private static void itsNumber() {
        Due.sentence("THE TAPE is a TEXT: its number");
        DrainedForAThird x = new DrainedForAThird();
        for (int t = 1; t <= 5; t++) {
            Due.is("text " + t, Due.read(x, "rains " + t + REST), t);
            Due.is("TEXTS", x.count(5), t + 1);
            if (t < 5) {
                Due.is("a FAULT takes no number", Due.read(x, "?"), -100);
            }
        }
        for (int t = 1; t <= 5; t++) {
            Due.is("force", x.force(t), t - 1);
            Due.is("rains", x.asks(0, 0), t);
        }
    }

    private static void emptyThen() {
        Due.sentence("THE TAPE, which is empty then (by a FAULT, too)");
        DrainedForAThird x = new DrainedForAThird();
        Due.is("text", Due.read(x, SHORTEST), 1);
        Due.is("bytes", x.count(6), 0);
        Due.is("text by a FAULT", Due.read(x, SHORTEST + "9"), -100 - SHORTEST.length());
        Due.is("bytes behind a FAULT", x.count(6), 0);
        Due.is("text of what was fed since", Due.read(x, SHORTEST), 2);
    }

    private static DrainedForAThird fullOfTexts() {
        DrainedForAThird x = new DrainedForAThird();
        for (int t = 1; t <= 5; t++) {
            Due.is("text " + t, Due.read(x, SHORTEST), t);
        }
        return x;
    }

    private static void sixAtMost() {
        Due.sentence("There are 6 TEXTS at most, TEXT 0 with them; FULL: no TEXT more has room (THE TAPE stays)");
        DrainedForAThird x = fullOfTexts();
        Due.is("the sixth besides TEXT 0", Due.read(x, SHORTEST), FULL);
        Due.is("TEXTS", x.count(5), 6);
        Due.is("bytes", x.count(6), SHORTEST.length());
        Due.is("once more", x.text(), FULL);
        Due.is("bytes still", x.count(6), SHORTEST.length());
        Due.is("a byte more", x.feed(32), SHORTEST.length() + 1);
    }

    private static void fullAheadOfAll() {
        Due.sentence("FULL (ahead of all)");
        DrainedForAThird x = fullOfTexts();
        Due.is("text of an empty TAPE", x.text(), FULL);
        Due.is("text of what has a FAULT", Due.read(x, "x"), FULL);
        Due.is("bytes", x.count(6), 1);
    }

    private static void emptyTape() {
        Due.sentence("(the text's size, if it ends too early)");
        DrainedForAThird x = new DrainedForAThird();
        Due.is("text of an empty TAPE", x.text(), -100);
        Due.is("again", x.text(), -100);
        Due.is("TEXTS", x.count(5), 1);
        fault(" ", 1);
        fault("\n", 1);
        fault("  \n ", 4);
    }

    private static void endsTooEarly() {
        Due.sentence("(the text's size, if it ends too early)");
        String text = "rains ( 6 + height * - 2 ) < 3 or not 1 and 2 ; shrinks 2 ; calls 3 ;";
        for (int size = 0; size < text.length(); size++) {
            boolean isInside = size > 0 && text.charAt(size) != ' ' && text.charAt(size - 1) != ' ';
            if (!isInside) {
                fault(text.substring(0, size), size);
            }
        }
        Due.is("the whole of it", Due.read(new DrainedForAThird(), text), 1);
        Due.is("without its blanks behind", Due.read(new DrainedForAThird(), text + " \n"), 1);
        fault("rains 6;shrinks 2;calls 3", 25);
        fault("rains (6", 8);
        fault("rains not ", 10);
    }

    private static void faultAtFirst() {
        Due.sentence("-100 less the place of its FAULT");
        fault("?", 0);
        fault("6;", 0);
        fault("height", 0);
        fault(";", 0);
        fault("rain 6;", 0);
        fault("shrinks 2;calls 3;rains 6;", 0);
        fault(" ?", 1);
        fault("\n rainy", 2);
    }

    private static void faultAtLast() {
        Due.sentence("-100 less the place of its FAULT");
        String blanks = " ".repeat(160 - SHORTEST.length() - 1);
        fault(SHORTEST + blanks + ";", 159);
        fault(SHORTEST + blanks + "\u00ff", 159);
        fault(SHORTEST.substring(0, SHORTEST.length() - 1) + blanks + "  ", 160);
        Due.is("a TEXT of 160 bytes", Due.read(new DrainedForAThird(), SHORTEST + blanks + " "), 1);
    }

    private static void firstFaultOnly() {
        Due.sentence("the place of the first byte of the first TOKEN that can't stand there");
        faultIn("1 1 ? 12345 bear", 2);
        faultIn("? 1 1", 0);
        faultIn("12345 12345", 0);
        faultIn("bear 12345", 0);
        faultIn("1 height ?", 2);
        fault("rains 1;rains 2;shrinks ?", 8);
        fault("rains 6 ? shrinks 2;calls 3", 8);
    }

    private static void partsInOrder() {
        Due.sentence("TEXT: rains E ; shrinks E ; calls E ;");
        fault("rains 6;calls 3;shrinks 2;", 8);
        fault("rains 6;shrinks 2;shrinks 3;", 18);
        fault("rains 6;rains 2;calls 3;", 8);
        fault("rains 6;shrinks 2;calls 3;;", 26);
        fault("rains 6;shrinks 2;calls 3; 7", 27);
        fault("rains 6;shrinks 2;calls 3;rains 6;", 26);
        fault("rains 6 shrinks 2;calls 3;", 8);
        fault("rains 6;shrinks 2 calls 3;", 18);
        fault("rains;shrinks 2;calls 3;", 5);
        fault("rains 6;shrinks;calls 3;", 15);
        fault("rains 6;shrinks 2;calls;", 23);
        fault("rains rains 6;", 6);
        fault("rains 6;;", 8);
        fault(";rains 6;", 0);
    }

    private static void orderOfSigns() {
        Due.sentence("E: AND { or AND }. AND: NOT { and NOT }. SUM: TERM { + or - TERM }. TERM: ONE { * ONE }.");
        faultIn("6 7", 2);
        faultIn("6 height", 2);
        faultIn("height 6", 7);
        faultIn("6 (7)", 2);
        faultIn("(6) 7", 4);
        faultIn("1 or", 4);
        faultIn("or 1", 0);
        faultIn("and 1", 0);
        faultIn("1 or or 2", 5);
        faultIn("1 and or 2", 6);
        faultIn("1 or and 2", 5);
        faultIn("+1", 0);
        faultIn("1++2", 2);
        faultIn("*1", 0);
        faultIn("1**2", 2);
        faultIn("1*+2", 2);
        faultIn("1+*2", 2);
        faultIn("1+", 2);
        faultIn("1*", 2);
        faultIn("1-", 2);
        faultIn("-", 1);
        faultIn("not", 3);
        faultIn("()", 1);
        faultIn("(1", 2);
        faultIn(")", 0);
        faultIn("1)", 1);
        faultIn("(1))", 3);
        faultIn("(1;2)", 2);
    }

    private static void atMostOneComparison() {
        Due.sentence("SUM, perhaps < or = and a SUM");
        stands("1", 1);
        stands("1<2", 1);
        stands("2=2", 1);
        stands("(1<2)<3", 1);
        stands("3<(1<2)", 0);
        faultIn("1<2<3", 3);
        faultIn("1=2=3", 3);
        faultIn("1<2=3", 3);
        faultIn("1=2<3", 3);
        faultIn("<1", 0);
        faultIn("=1", 0);
        faultIn("1<", 2);
        faultIn("1=", 2);
        faultIn("1<=2", 2);
        faultIn("1==2", 2);
    }

    private static void notAheadOfSums() {
        Due.sentence("NOT: not NOT, or SUM");
        stands("not not 7", 1);
        stands("not 0 and not 0", 1);
        stands("0 or not 0", 1);
        faultIn("1+not 2", 2);
        faultIn("1*not 2", 2);
        faultIn("1<not 2", 2);
        faultIn("1=not 2", 2);
        faultIn("-not 2", 1);
        faultIn("1 not 2", 2);
        stands("1+(not 0)", 2);
        stands("-(not 0)+3", 2);
    }

    private static void asLongAsCanBe() {
        Due.sentence("TOKENS, each as long as can be");
        faultIn("heights", 0);
        faultIn("yearyear", 0);
        faultIn("1 orheight", 2);
        faultIn("not1or 0not", 8);
        fault("rainss 6", 0);
        fault("rains6;shrinks2;callsx;", 16);
        stands("not1or 0", 0);
        stands("1or 0and 0", 1);
        stands("12", 12);
        faultIn("1 2", 2);
        faultIn("height12345", 6);
        Due.is("no blanks", Due.read(new DrainedForAThird(), "rains7;shrinks(1);calls-3;"), 1);
    }

    private static void numbersOfFourAtMost() {
        Due.sentence("NUMBERS (as many digits as stand there, 4 at most); a NUMBER that is too long");
        stands("0", 0);
        stands("0000", 0);
        stands("0099", 99);
        stands("9999-9900", 99);
        faultIn("00000", 0);
        faultIn("12345", 0);
        faultIn("1+00000", 2);
        faultIn("1+ 01234 ", 3);
        faultIn("1 + 99999999999999999999", 4);
        faultIn("4294967297", 0);
    }

    private static void blanks() {
        Due.sentence("blanks (32, 10) may stand between");
        stands("\n 4 \n+\n\n1 ", 5);
        stands("4+1", 5);
        Due.is("ahead and behind", Due.read(new DrainedForAThird(), " \n rains 1;shrinks 1;calls 1; \n "), 1);
        for (char other = 0; other < 256; other++) {
            DrainedForAThird x = new DrainedForAThird();
            boolean isBlank = other == 32 || other == 10;
            int due = isBlank ? 1 : "0123456789".indexOf(other) >= 0 ? 1 : "+*<=;-".indexOf(other) >= 0 ? -108 : -107;
            // Behind a NUMBER a digit is more of it, a sign that joins or ends stands, and what follows does not.
            Due.is("byte " + (int) other, Due.read(x, "rains 1" + other + ";shrinks 2;calls 3;"), due);
        }
    }

    private static void blanksPart() {
        Due.sentence("blanks (32, 10) may stand between");
        faultIn("hei ght", 0);
        faultIn("1 1", 2);
        faultIn("n\not 1", 0);
        fault("rai ns 6;", 0);
    }

    private static void bytesThatBeginNone() {
        Due.sentence("also of a byte that begins none");
        String begins = "()-0123456789 \n";
        for (char other = 0; other < 256; other++) {
            if (begins.indexOf(other) < 0) {
                faultIn(other + "1", 0);
            }
        }
        faultIn("1+\t2", 2);
        faultIn("1+\r2", 2);
        faultIn("1/2", 1);
        faultIn("1>2", 1);
        faultIn("Height", 0);
        faultIn("hEight", 0);
        faultIn("1\u00002", 1);
        faultIn("(1 ? 2)", 3);
        fault("Rains 6;", 0);
    }

    private static void foreignWords() {
        Due.sentence("a WORD that is neither KEY nor NAME");
        faultIn("heigh", 0);
        faultIn("bear", 0);
        faultIn("yearz", 0);
        faultIn("x", 0);
        faultIn("river", 0);
        faultIn("(x 1))", 1);
        faultIn("1+x", 2);
        faultIn("1 ands 2", 2);
        faultIn("1 o 2", 2);
        faultIn("nots 1", 0);
        String[] names = {"height", "peat", "year", "number", "water", "cell"};
        for (String name : names) {
            Due.is(name, Due.read(new DrainedForAThird(), "rains " + name + REST), 1);
            faultIn(name.substring(1), 0);
            faultIn(name.substring(0, name.length() - 1), 0);
            faultIn(name + "a", 0);
        }
    }

    private static void keysAreNoNames() {
        Due.sentence("rains, shrinks, calls, or, and, not are KEYS");
        String[] keys = {"rains", "shrinks", "calls", "or", "and"};
        for (String key : keys) {
            faultIn(key, 0);
            faultIn("1+" + key, 2);
        }
        faultIn("1 rains", 2);
        faultIn("1 calls 2", 2);
        fault("not 6;", 0);
        fault("or 6;", 0);
    }

    private static void fiveOpen() {
        Due.sentence("a ( , a not, a - ahead of a ONE while 5 of these are open");
        stands("(((((1)))))", 1);
        faultIn("((((((1))))))", 5);
        stands("7-----1", 6);
        stands("6+-----1+1", 6);
        faultIn("------1", 5);
        faultIn("7-------1", 7);
        stands("not not not not not 0", 1);
        faultIn("not not not not not not 0", 20);
        faultIn("((((((", 5);
        faultIn("not not not not not not", 20);
    }

    private static void fiveOpenMixed() {
        Due.sentence("a ( , a not, a - ahead of a ONE while 5 of these are open");
        stands("not(not(-1))", 1);
        stands("not(not(-1)<1)", 1);
        faultIn("not(not(-(1)))", 9);
        faultIn("(-(not(-(1))))", 7);
        faultIn("not(-(not(-1)))", 9);
        faultIn("(((((-1)))))", 5);
        faultIn("(((((not 1)))))", 5);
        faultIn("not not not not not -1", 20);
        faultIn("not not not not not (1)", 20);
        faultIn("-----(1)", 5);
        stands("(((((1-1+1)))))", 1);
        // A - that joins two is none of these.
        stands("(((((1)))-(0)))", 1);
    }

    private static void openTillItEnds() {
        Due.sentence("(a ( till its ) , not and - till what they belong to ends)");
        stands("(((((1)))))+(((((1)))))", 2);
        stands("9-----1*-----1", 10);
        stands("9+----1+----1*----3", 13);
        stands("not not not not not 0 and not not not not not 0", 1);
        stands("not not not not not 0 or (((((0)))))", 1);
        faultIn("not not not not -1+-(1)", 20);
        stands("not not not not -1+-1<2", 1);
        stands("not not not not (1)-(1)", 0);
        faultIn("not not not not 1<((1))", 19);
        stands("not not not not 1<(1)", 0);
        faultIn("(1)+((((((1))))))", 9);
        stands("(1)or(0)or(0)or(0)or(0)or(0)or(4)", 1);
        faultIn("(not 1 and (((((1))))))", 15);
        stands("(not 0 and ((((1)))))", 1);
    }

    private static void deepest() {
        Due.sentence("TEXT: rains E");
        stands("1or 1and 1<1+1*(1or 1and 1<1+1*(1or 1and 1<1+1*(1or 1and 1<1+1*(1or 1and 1<1+1*(0or 1and 1<1+1*5)))))", 1);
        stands("0or 1and-9<1+2*(3*(0or 1and-9<1+2*(0or 1and 9<1+2*(0or 1and 9<1+2*(0or 1and 1<1+2*5)))))", 1);
        stands("1+2*(1+2*(1+2*(1+2*(1+2*(1+1)))))", 95);
        stands("0or 1and 0+1*(0or 1and 0+1*(0or 1and 0+1*(0or 1and 0+1*(0or 1and 0+1*(0or 1and 3<2+1*2)))))", 1);
        stands("0or 1and 0+1*(0or 1and 0+1*(0or 1and 0+1*(0or 1and 0+1*(0or 1and 0+1*(0or 1and 4<2+1*2)))))", 0);
        // Five signs wait at each of six levels for what stands innermost, and all of it hangs on that.
        String open = "0or 1and 0<0+1*";
        stands((open + "(").repeat(5) + open + "7" + ")".repeat(5), 1);
        stands((open + "(").repeat(5) + open + "0" + ")".repeat(5), 0);
        String alike = "0or 5and 3=1+2*";
        stands((alike + "(").repeat(5) + alike + "1" + ")".repeat(5), 1);
        stands((alike + "(").repeat(5) + alike + "2" + ")".repeat(5), 0);
        stands("1" + "+1".repeat(65), 66);
        stands("1" + "*1".repeat(65), 1);
        stands("0" + "or 0".repeat(32) + "or 7", 1);
        stands("1" + "and 1".repeat(25) + "and 0", 0);
    }

    private static void wrapping() {
        Due.sentence("An E is an int (32 bits, wrapping)");
        stands("9999*9999*9999*9999<0", 0);
        stands("9999*9999*22<0", 1);
        stands("(1-9999*9999*22)<0", 0);
        stands("9999*9999*9999=-(1027*1000*1000+349*1000+969)", 1);
        stands("4096*16*4096*16+5", 5);
        // 2 to the 31 is below 0, and its own opposite; 1 less is above 0.
        stands("4096*4096*128<0", 1);
        stands("-(4096*4096*128)<0", 1);
        stands("4096*4096*128-1<0", 0);
        stands("4096*4096*127+4096*4096<0", 1);
        stands("0-4096*4096*128-1<0", 0);
    }

    private static void truth() {
        Due.sentence("of or, and, not, <, = 1 or 0 (what is not 0 is true)");
        stands("7 or 0", 1);
        stands("0 or -3", 1);
        stands("0 or 0", 0);
        stands("7 and 8", 1);
        stands("-1 and -1", 1);
        stands("7 and 0", 0);
        stands("0 and 7", 0);
        stands("1 and 2", 1);
        stands("not 0", 1);
        stands("not 7", 0);
        stands("not -1", 0);
        stands("1<2", 1);
        stands("2<2", 0);
        stands("3<2", 0);
        stands("-1<0", 1);
        stands("2=2", 1);
        stands("2=3", 0);
        stands("3=2", 0);
        stands("4096*4096*256 or 0", 0);
    }

    private static void joined() {
        Due.sentence("E: AND { or AND }. AND: NOT { and NOT }. NOT: not NOT, or SUM, perhaps < or = and a SUM");
        stands("2+3*4", 14);
        stands("(2+3)*4", 20);
        stands("20-3-4", 13);
        stands("20-(3-4)", 21);
        stands("2*3*4-5*2", 14);
        stands("- 3 + 10", 7);
        stands("-3*-4", 12);
        stands("2--3", 5);
        stands("1+1=2", 1);
        stands("2*2<5-1", 0);
        stands("1 or 0 and 0", 1);
        stands("(1 or 0) and 0", 0);
        stands("0 and 0 or 1", 1);
        stands("not 1 = 0", 1);
        stands("not 0 and 0", 0);
        stands("not (0 and 0)", 1);
        stands("not 1 or 1", 1);
        stands("not 5-5", 1);
        stands("1 and 2 and 3", 1);
        stands("0 or 0 or 4", 1);
        stands("10*(3<4)+(2=2)", 11);
    }

    private static void keeps() {
        Due.sentence("Refusals change nothing");
        Twin.keeps("text(), which has no room", Promise06TextTest::fullOfTexts, x -> x.text(), FULL);
        DrainedForAThird x = Twin.full();
        Due.is("a FAULT", x.text(), -108);
        Due.is("only THE TAPE is empty", x.count(6), 0);
        Due.is("TEXTS", x.count(5), 2);
        Due.is("THE RULE", x.count(7), 1);
        Due.is("rains", x.asks(0, 11), 14);
    }
}
