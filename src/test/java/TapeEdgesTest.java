/**
 * The sentences of the document about RULES, THE TAPE, CONDITIONS and PROGRAMS (Terms 1 to 3, promises 12 to 16, 24 to 26
 * and 44 to 46) that name an edge: each has an object of its own here, named by its words.
 */
final class TapeEdgesTest extends Script {
    /** The greatest int, and the least one but for its last step, as a SUM of NUMBERS of 4 digits. */
    private static final String GREATEST = "(4096*4096*127+4096*4095+4095)";

    private TapeEdgesTest() {
        super("TapeEdgesTest");
    }

    public static void main(String[] args) {
        TapeEdgesTest t = new TapeEdgesTest();
        t.tapeSizes();
        t.tokens();
        t.ruleRoom();
        t.ruleRanks();
        t.rulesInTurn();
        t.conditionFaults();
        t.openSigns();
        t.words();
        t.ints();
        t.asFarAsNeeded();
        t.programRoom();
        t.programFaults();
        t.openRepeats();
        t.steps();
        t.breaks();
        t.origins();
        t.linesOfPrograms();
        t.inThought();
        t.check.end();
    }

    // ---- THE TAPE, promise 44

    private void tapeSizes() {
        on("THE TAPE has 200 bytes at most: FULL: they have no room");
        due(0, "count", 6);
        for (int k = 1; k <= 49; k++) due(4 * k, "feed", 4, 0x20202020);
        due(199, "feed", 3, 0x20202020);
        for (int n = 2; n <= 4; n++) due(FULL, "feed", n, 0x20202020);
        due(199, "count", 6);
        due(200, "feed", 1, 0x20);
        for (int n = 1; n <= 4; n++) due(FULL, "feed", n, 0x20202020);
        for (int n : a(0, 5, -1, LEAST, MOST)) due(BAD, "feed", n, 0x20202020);
        due(200, "count", 6);
        due(-300, "rule", 0, 0, 0, 0);
        due(0, "count", 6);
        due(4, "feed", 4, 0);

        on("a CONDITION of 200 bytes");
        feed(" ".repeat(197) + "1=1");
        due(200, "count", 6);
        due(1, "rule", 0, 0, 0, 0);
        due(0, "count", 6);
        feed("1=1" + " ".repeat(197));
        due(2, "rule", 1, 0, 0, 0);
        feed("1" + "+1".repeat(98) + "=1");
        due(FULL, "feed", 2, 0);
        feed("1");
        due(3, "rule", 2, 0, 0, 0);
        due(0, "holds", 2, 0);
        fault(200, "1=1" + "+1".repeat(98) + "+");
        fault(199, "1=1" + "+1".repeat(98) + "]");

        on("n bytes (1 .. 4) of word, its lowest first");
        due(BAD, "feed", 0, '1');
        due(BAD, "feed", 5, '1');
        due(3, "feed", 3, 0x7F000000 | '1' << 16 | '=' << 8 | '1');
        due(1, "rule", 0, 0, 0, 0);
        due(1, "feed", 1, 0xFFFFFF00 | '2');
        due(2, "feed", 1, '>');
        due(3, "feed", 1, -256 | '1');
        due(2, "rule", 1, 0, 0, 0);
        due(1, "holds", 1, 0);
        due(4, "feed", 4, '1' | '=' << 8 | '1' << 16 | 0x80 << 24);
        due(-103, "rule", 2, 0, 0, 0);
    }

    private void tokens() {
        for (int b = 0; b < 256; b++) {
            boolean begins = b >= 'a' && b <= 'z' || b >= '0' && b <= '9' || b == ' ' || "[]()<=>+-*;:{}".indexOf(b) >= 0;
            if (b % 16 == 0) on("TOKENS: of a byte that begins none: its place");
            if (begins) continue;
            fault(3, "1=1" + (char) b);
            fault(0, (char) b + "1=1");
            programFault(10, "tidy face;" + (char) b);
        }

        on("TOKENS: each as long as can be; blanks (32) may stand between");
        fault(0, "valuevalue=1");
        fault(4, "1=1 oror 1=1");
        fault(2, "1 2=3");
        fault(6, "value 1=1");
        fault(5, "value1=1");
        rule(1, "value=0and row=0or column=0", 0, 0, 0, 0);
        rule(2, "   value  =  0   and[row<1]or(column)=0   ", 0, 0, 0, 0);
        rule(3, "not  not 1=1", 0, 0, 0, 0);
        fault(0, "notnot 1=1");
        text(0, "paint face 3a0:b1;tidy ink ;shift-1- 1;repeat 2{}");
        programFault(0, "tidyface;");
        programFault(13, "paint face 3 ab0;");
    }

    // ---- RULES, promises 12 to 14 and 24 to 26

    private void ruleRoom() {
        on("RULES (6 at most): FULL, THE TAPE stays");
        for (int k = 1; k <= 6; k++) rule(k, "1=1", 0, 0, k, 0);
        feed("1=1");
        for (int rank : a(0, 3, 6)) due(FULL, "rule", rank, 0, 0, 0);
        due(BAD, "rule", 7, 0, 0, 0);
        due(BAD, "rule", -1, 0, 0, 0);
        due(BAD, "rule", 0, 8, 0, 0);
        due(BAD, "rule", 0, 0, 40, 0);
        due(BAD, "rule", 0, 0, 0, 2);
        due(3, "count", 6);
        due(6, "count", 2);
        due(6, "count", 3);
        due(5, "drop", 5);
        due(6, "rule", 5, 0, 9, 0);
        due(0, "count", 6);
        due(9, "ruleOf", 5, 2);
        due(7, "remove", 1, 0);
        due(0, "count", 2);
        due(0, "idle");

        on("promise 12: BAD: THE TAPE stays, with a fault in it, too");
        feed("1=");
        due(BAD, "rule", 1, 0, 0, 0);
        due(2, "count", 6);
        due(-102, "rule", 0, 0, 0, 0);
        due(0, "count", 6);
        due(-100, "rule", 0, 0, 0, 0);
        due(0, "count", 3);
    }

    private void ruleRanks() {
        on("promise 12: RANK (0 .. how many there are)");
        rule(BAD, "1=1", 1, 0, 0, 0);
        due(1, "rule", 0, 0, 1, 0);
        rule(BAD, "1=1", 2, 0, 0, 0);
        due(2, "rule", 1, 0, 2, 0);
        rule(3, "1=1", 0, 0, 3, 0);
        rule(4, "1=1", 1, 0, 4, 0);
        numbers(3, 4, 1, 2);

        on("promise 12: pv: 10 times the PROPERTY, and the NUMBER");
        for (int pv : a(0, 9, 10, 39)) {
            rule(1, "1=1", 0, 0, pv, 1);
            due(pv / 10, "ruleOf", 0, 1);
            due(pv % 10, "ruleOf", 0, 2);
            due(1, "ruleOf", 0, 3);
            due(pv % 10, "shown", 0, pv / 10);
            due(0, "drop", 0);
        }
        feed("1=1");
        for (int pv : a(-1, 40, -10, 100, LEAST, MOST)) due(BAD, "rule", 0, 0, pv, 0);
        for (int stops : a(-1, 2, LEAST, MOST)) due(BAD, "rule", 0, 0, 0, stops);

        on("promise 13: the first, the last, the only one; none is there");
        due(BAD, "drop", 0);
        for (int k = 0; k < 4; k++) rule(k + 1, "1=1", k, 0, k, 0);
        due(BAD, "drop", 4);
        due(3, "drop", 3);
        numbers(0, 1, 2);
        due(2, "drop", 0);
        numbers(1, 2);
        due(1, "drop", 0);
        due(0, "drop", 0);
        due(BAD, "drop", 0);
        due(BAD, "drop", -1);

        on("promise 14: from the first to the last and back; to itself");
        due(BAD, "bring", 0, 0);
        for (int k = 0; k < 6; k++) rule(k + 1, "1=1", k, 0, k, 0);
        due(1, "bring", 0, 5);
        numbers(1, 2, 3, 4, 5, 0);
        due(1, "bring", 5, 0);
        numbers(0, 1, 2, 3, 4, 5);
        due(1, "bring", 4, 1);
        numbers(0, 4, 1, 2, 3, 5);
        due(1, "bring", 1, 4);
        numbers(0, 1, 2, 3, 4, 5);
        due(1, "bring", 5, 5);
        numbers(0, 1, 2, 3, 4, 5);
        due(BAD, "bring", 0, 6);
        due(BAD, "bring", 6, 0);
        due(BAD, "bring", 0, -1);
        due(BAD, "bring", -1, 0);
        due(11, "count", 3);
    }

    /** NUMBERS of the rules, by rank; there are no more of them. */
    private void numbers(int... numbers) {
        due(numbers.length, "count", 2);
        for (int k = 0; k < numbers.length; k++) due(numbers[k], "ruleOf", k, 2);
        due(BAD, "ruleOf", numbers.length, 2);
    }

    private void rulesInTurn() {
        on("it HOLDS at a CELL of its RECT: its corners, and what is beside them");
        rule(1, "1=1", 0, 2030405, 7, 0);
        for (int cell : a(203, 205, 403, 405)) due(1, "holds", 0, cell);
        for (int cell : a(103, 202, 206, 305 + 1, 402, 503, 505)) due(0, "holds", 0, cell);
        due(9, "ruleOf", 0, 4);
        due(9, "ruleOf", 0, 5);
        due(7, "all", 0, 2030405);
        due(9, "many", 0, 7, 707);

        on("the first that HOLDS at the CELL and is of the PROPERTY gives its NUMBER, 0 too");
        due(1, "ground", 0, 5);
        rule(1, "column=1", 0, 7, 10, 0);
        rule(2, "column<3", 1, 7, 0, 0);
        rule(3, "column<4", 2, 7, 3, 0);
        shows(0, 0, 0, 0, 0, 3, 5);
        due(3, "ruleOf", 1, 5);
        due(4, "ruleOf", 2, 4);
        due(1, "ruleOf", 2, 5);
        due(1, "ruleOf", 0, 5);
        due(0, "idle");

        on("behind one that HOLDS there and STOPS (whatever its PROPERTY) none is looked at");
        rule(1, "column<2", 0, 7, 39, 1);
        rule(2, "column<3", 1, 7, 4, 0);
        rule(3, "column<1", 2, 7, 38, 0);
        shows(0, 0, 0, 0, 4, 0);
        shows(3, 0, 9, 9, 0, 0);
        due(3, "ruleOf", 1, 4);
        due(1, "ruleOf", 1, 5);
        due(1, "holds", 1, 0);
        due(4, "idle");
        due(1, "bring", 0, 1);
        shows(0, 0, 4, 4, 4, 0);
        shows(3, 0, 9, 9, 0, 0);
        on("one that STOPS and does not HOLD there stops none");
        rule(1, "1=2", 0, 7, 39, 1);
        rule(2, "1=1", 1, 7, 4, 0);
        shows(0, 0, 4, 4, 4, 4, 4, 4, 4, 4);
        due(1, "idle");
        due(0, "ruleOf", 0, 4);

        on("IDLE: a RULE that SHOWS one CELL its NUMBER is not idle, also where that NUMBER is PLAIN, too");
        rule(1, "1=1", 0, 707, 0, 0);
        due(0, "idle");
        for (int k = 1; k < 6; k++) rule(k + 1, "1=1", k, 707, 0, 0);
        due(62, "idle");
        due(4, "by", 707, 0);
        due(5, "drop", 0);
        due(30, "idle");
    }

    // ---- CONDITIONS

    private void conditionFaults() {
        on("FAULT: the text's size, if it ends too early");
        fault(0, "");
        fault(1, " ");
        for (String text : new String[] {"not", "[", "(", "-", "1", "1+", "1-", "1*", "1=", "1=-", "1=1 or", "1=1 and", "value<",
            "[1=1", "[1=1 or", "(1", "(1+1", "not [1=1", "1=(1"}) {
            fault(text.length(), text);
            fault(text.length() + 2, text + "  ");
        }

        on("FAULT: the place of the first byte of the first TOKEN that can't stand there");
        String[] faults = {"0 =1=1", "0 or 1=1", "0 and 1=1", "0 )", "0 ]", "0 +1=1", "0 *1=1", "0 <1", "2 1=or", "2 1=not 1",
            "2 1=[1]", "2 1==1", "2 1<=1", "2 1>=1", "3 1=1=1", "3 1=1<1", "3 1=1]", "3 1=1)", "3 1=1(", "3 1=1[", "3 1=1;", "3 1=1:",
            "3 1=1{", "3 1=1}", "4 1=1 1=1", "4 1=1 value", "4 1=1 not 1=1", "7 1=1 or or 1=1", "8 1=1 and and 1=1", "2 [1]",
            "4 [1=1)", "2 (1]=1", "2 (1=1)", "2 (1<1)=1", "4 not or 1=1", "4 not )", "1 (not 1)=1", "2 1+*1=1", "2 1+=1",
            "2 1*+1=1", "1 (=1", "1 ()=1", "1 []", "2 1 or 1=1", "1 -or=1", "1 -[1=1]", "1 -=1"};
        for (String f : faults) {
            int blank = f.indexOf(' ');
            fault(Integer.parseInt(f.substring(0, blank)), f.substring(blank + 1));
        }

        on("FAULT: also a WORD that is none of those told");
        for (String word : new String[] {"values", "valu", "v", "rows", "col", "columns", "lef", "aboves", "sums", "min", "max",
            "likes", "great", "ors", "nor", "a", "z", "none", "to", "paint", "face"}) {
            fault(0, word + "=1");
            fault(2, "1=" + word);
        }

        on("FAULT: a NUMBER that is too long (4 digits at most)");
        fault(0, "10000=1");
        fault(0, "00000=0");
        fault(2, "1=99999");
        fault(3, "1=-12345");
        fault(2, "1=" + "9".repeat(198));
        rule(1, "9999>9998 and 0000=0 and 0001=1", 0, 0, 0, 0);
        due(1, "holds", 0, 0);
    }

    private void openSigns() {
        on("at most 4 of not, [, ( and - ahead of a UNIT are open at once: one kind");
        rule(1, "not not not not 1=1", 0, 0, 0, 0);
        due(1, "holds", 0, 0);
        fault(16, "not not not not not 1=1");
        rule(2, "[[[[1=1]]]]", 1, 0, 0, 0);
        fault(4, "[[[[[1=1]]]]]");
        rule(3, "((((1))))=1", 2, 0, 0, 0);
        fault(4, "(((((1)))))=1");
        rule(4, "----1=1", 3, 0, 0, 0);
        fault(4, "-----1=-1");

        on("at most 4 of not, [, ( and - ahead of a UNIT are open at once: of several kinds");
        rule(1, "not [(-1)=-1]", 0, 0, 0, 0);
        due(0, "holds", 0, 0);
        fault(7, "not [(--1)=1]");
        fault(7, "not [((-1))=1]");
        fault(16, "not not not not [1=1]");
        fault(16, "not not not not (1)=1");
        fault(16, "not not not not -1=-1");
        fault(4, "[[[[not 1=1]]]]");
        fault(4, "[[[[-1=1]]]]");
        fault(4, "[[[[(1)=1]]]]");
        fault(4, "((((-1))))=1");
        fault(4, "----(1)=1");

        on("at most 4 are open at once: one that is shut is open no more, - between PARTS is none");
        String four = "[[[[1=1]]]]", nots = "not not not not 1=1";
        rule(1, four + " and " + four + " or " + nots + " and " + nots + " or " + four, 0, 0, 0, 0);
        rule(2, "((((1))))+((((1))))=2 and ----1*----1=1 and ((((1))))=1", 1, 0, 0, 0);
        rule(3, "[[[[3-1-1-1=0]]]]", 2, 0, 0, 0);
        rule(4, "not [not -1=-2 or -1*-1=2]", 3, 0, 0, 0);
        for (int rank = 0; rank < 4; rank++) due(rank == 3 ? 0 : 1, "holds", rank, 0);
    }

    private void words() {
        on("left, above: the VALUE beside it, over it, also outside of the RULE's RECT; 0: there is none");
        values(0, 1, 2, 3);
        values(1, 4, 5, 6);
        holds(1, "left=5 and above=3", 1020102, 102);
        holds(1, "left=0 and above=1", 1000100, 100);
        holds(1, "left=1 and above=0", 10001, 1);
        holds(1, "left=0 and above=0", 0, 0);

        on("sum, most, least: of all VALUES in the RULE's RECT, and of none beside it");
        values(0, 999, 999, 999, 999);
        values(1, 999, -3, -5, 999);
        values(2, 999, 999, 999, 999);
        holds(1, "sum=-8 and most=-3 and least=-5", 1010102, 101);
        holds(1, "sum=-3 and most=-3 and least=-3", 1010101, 101);
        holds(1, "sum=999*6-8 and most=999 and least=-5", 1000203, 101);

        on("like, greater: itself is like, and not greater");
        values(0, 2, 2, 3, -1);
        holds(1, "like=1 and greater=0", 0, 0);
        holds(1, "like=2 and greater=1", 3, 0);
        holds(1, "like=1 and greater=0", 3, 2);
        holds(1, "like=1 and greater=3", 3, 3);
        holds(1, "like=60 and greater=3", 707, 707);
        holds(1, "greater=3", 3, 3);
        holds(0, "greater=2", 3, 3);
        holds(0, "greater>3", 3, 3);
        holds(1, "like=2", 3, 1);
        holds(0, "like=1", 3, 1);
        holds(1, "like=like", 3, 1);
        holds(0, "like<like", 3, 1);
        holds(0, "greater>like", 3, 2);
        holds(1, "greater*like-like=2", 3, 3);

        on("row, column: of the CELL on THE SHEET");
        holds(1, "row=0 and column=0", 0, 0);
        holds(1, "row=7 and column=5", 7050705, 705);

        on("of all VALUES of the greatest sheet");
        due(16, "insert", 0, 0, 8);
        due(16, "insert", 1, 0, 8);
        holds(1, "like=256 and greater=0 and sum=0 and most=0 and least=0", 1515, 1515);
        due(1, "value", 0, -999);
        holds(1, "like=255 and greater=0 and sum=-999 and least=-999", 1515, 1515);
        holds(1, "like=1 and greater=255 and most=0", 1515, 0);
    }

    private void ints() {
        on("what isn't an int: the whole CONDITION isn't so: +");
        holds(1, GREATEST + ">0", 0, 0);
        holds(0, GREATEST + "+1>0", 0, 0);
        holds(0, GREATEST + "+1<0", 0, 0);
        holds(1, GREATEST + "+0>0", 0, 0);
        holds(0, "1+" + GREATEST + "-1>0", 0, 0);
        holds(0, "not " + GREATEST + "+1<0", 0, 0);

        on("what isn't an int: -");
        holds(1, "0-" + GREATEST + "-1<0", 0, 0);
        holds(0, "0-" + GREATEST + "-2<0", 0, 0);
        holds(0, "0-" + GREATEST + "-2>0", 0, 0);
        holds(0, "0-(0-" + GREATEST + "-1)>0", 0, 0);
        holds(1, "-1-(0-" + GREATEST + "-1)>0", 0, 0);

        on("what isn't an int: - ahead of a UNIT");
        holds(1, "-" + GREATEST + "<0", 0, 0);
        holds(0, "-(0-" + GREATEST + "-1)>0", 0, 0);
        holds(0, "-(0-" + GREATEST + "-1)<0", 0, 0);

        on("what isn't an int: *");
        holds(1, "4096*4096*127>0", 0, 0);
        holds(0, "4096*4096*128>0", 0, 0);
        holds(0, "4096*4096*128<0", 0, 0);
        holds(1, "-4096*4096*128<0", 0, 0);
        holds(0, "-4096*4096*129<0", 0, 0);
        holds(0, "8192*8192*64*0=0", 0, 0);
        holds(0, "8192*8192*8192*8192*8192*8192=0", 0, 0);
        holds(1, "0*8192*8192*8192=0", 0, 0);
        holds(0, "(0-" + GREATEST + "-1)*(-1)<0", 0, 0);

        on("what isn't an int, at each CELL of the greatest sheet: the other RULES go on");
        due(16, "insert", 0, 0, 8);
        due(16, "insert", 1, 0, 8);
        for (int k = 0; k < 5; k++) rule(k + 1, "9999*9999*99=0", k, 1515, 10 * (k % 4), 1);
        rule(6, "1+(1+(1+(1+value)))=4 and [1=1 and row<16]", 5, 1515, 7, 0);
        for (int k = 0; k < 5; k++) due(0, "ruleOf", k, 4);
        due(256, "ruleOf", 5, 4);
        due(256, "many", 0, 7, 1515);
        due(31, "idle");
    }

    private void asFarAsNeeded() {
        String tooMuch = "9999*9999*99=0";
        on("or, and are worked out from the left as far as needed");
        holds(1, "1=1 or " + tooMuch, 0, 0);
        holds(0, tooMuch + " or 1=1", 0, 0);
        holds(0, "1=2 and " + tooMuch, 0, 0);
        holds(1, "not [1=2 and " + tooMuch + "]", 0, 0);
        holds(0, "not [" + tooMuch + " and 1=2]", 0, 0);
        holds(0, "1=2 or " + tooMuch + " or 1=1", 0, 0);
        holds(1, "1=2 and " + tooMuch + " or 1=1", 0, 0);
        holds(0, "1=1 and " + tooMuch + " or 1=1", 0, 0);
        holds(1, "1=1 or 1=1 and " + tooMuch, 0, 0);
        holds(0, "[1=1 or " + tooMuch + "] and " + tooMuch, 0, 0);
        holds(1, "[1=1 or " + tooMuch + "] and [1=2 or 1=1 or " + tooMuch + "]", 0, 0);

        on("or stands over and, not over both");
        holds(1, "1=1 or 1=1 and 1=2", 0, 0);
        holds(1, "1=2 and 1=2 or 1=1", 0, 0);
        holds(0, "not 1=1 or 1=2", 0, 0);
        holds(1, "not 1=2 and 1=1", 0, 0);
        holds(0, "not 1=1 and 1=2", 0, 0);
        holds(1, "2-1-1=0 and 2-(1-1)=2 and 2*-1=-2 and 1+2*3=7 and 2*2*2=8", 0, 0);
        holds(1, "1<2 and 2>1 and not 2<2 and not 2>2 and 2=2", 0, 0);
        holds(0, "not 1<2", 0, 0);
        holds(0, "not 2>1", 0, 0);
        holds(0, "not 2=2", 0, 0);
        holds(1, "not 1>2", 0, 0);
        holds(1, "not not 1<2", 0, 0);
        on("what HOLDS is told anew when a VALUE changes");
        rule(1, "value=5", 0, 0, 7, 0);
        due(0, "shown", 0, 0);
        due(1, "value", 0, 5);
        due(7, "shown", 0, 0);
        due(1, "undo");
        due(0, "shown", 0, 0);
    }

    // ---- PROGRAMS, promises 45, 46, 16

    private void programRoom() {
        on("there are 4 PROGRAMS at most: FULL, THE TAPE stays");
        for (int k = 0; k < 4; k++) {
            due(k, "count", 5);
            due(BAD, "run", k);
            due(BAD, "tests", k, 0);
            text(k, "paint face " + k + " a0;");
        }
        feed("tidy");
        due(FULL, "text");
        due(4, "count", 6);
        due(4, "count", 5);
        for (int k = 0; k < 4; k++) {
            due(1, "run", k);
            due(k, "shown", 0, 0);
        }
        for (int k : a(-1, 4, LEAST, MOST)) {
            due(BAD, "run", k);
            due(BAD, "tests", k, 0);
        }
        due(4, "count", 3);

        on("promise 45: one with a FAULT is none, THE TAPE is empty then");
        text(-104, "tidy");
        due(0, "count", 5);
        due(0, "count", 6);
        text(0, "tidy face;");
        due(1, "count", 5);
        due(0, "count", 3);

        on("LINES: any number of LINE, none too");
        text(0, "");
        due(0, "run", 0);
        due(0, "tests", 0, 0);
        due(0, "tests", 0, 1);
        due(808, "tests", 0, 2);
        due(1, "tests", 0, 3);
        text(1, " ".repeat(200));
        due(0, "run", 1);
        text(2, "tidy ink;".repeat(22));
        due(22, "run", 2);
        text(3, "repeat 1{}".repeat(20));
        due(20, "run", 3);
    }

    private void programFaults() {
        on("a PROGRAM: the text's size, if it ends too early");
        for (String text : new String[] {"paint", "paint face", "paint face 1", "paint face none", "paint face 1 a", "paint face 1 a0",
            "paint face 1 a0:", "paint face 1 a0:b", "paint face 1 a0:b0", "rows", "rows ink", "rows ink 1", "columns ink 1 0",
            "columns ink 1 0 to", "columns ink 1 0 to 1", "insert", "insert rows", "insert rows 1", "insert rows 1 by",
            "insert rows 1 by 1", "remove", "remove columns", "remove columns 1", "remove columns 1 to", "remove columns 1 to 1",
            "copy", "copy a", "copy a0", "copy a0 to", "copy a0 to b", "turn a0 to b0", "tidy", "tidy size", "shift", "shift -",
            "shift 1", "shift 1 -", "shift 1 1", "repeat", "repeat 1", "repeat 1{", "repeat 1{tidy ink;", "repeat 1{}repeat"}) {
            programFault(text.length(), text);
        }

        on("a PROGRAM: the first TOKEN that can't stand there");
        String[] faults = {"0 face", "0 1", "0 ;", "0 }", "0 {", "0 a0", "6 paint 1", "6 paint rows 1 a0;", "11 paint face a0;",
            "11 paint face -1 a0;", "13 paint face 1 1;", "14 paint face 1 a:b0;", "14 paint face 1 a-1;", "16 paint face 1 a0 b0;",
            "17 paint face 1 a0: ;", "19 paint face 1 a0:b0 :c0;", "16 paint face 1 a0;;", "5 rows 1", "9 rows ink a0;",
            "11 rows ink 1 to 1;", "13 rows ink 1 0 by 1;", "16 rows ink 1 0 to -1;", "7 insert face", "12 insert rows -1 by 1;",
            "14 insert rows 1 to 1;", "17 insert rows 1 by -1;", "14 remove rows 1 by 1;", "12 remove rows to 1;", "5 copy 1",
            "8 copy a0 a0;", "8 copy a0 by a0;", "8 turn a0 ; to b0;", "5 tidy none;", "5 tidy 1;", "10 tidy face ink;",
            "6 shift a 1;", "7 shift --1 1;", "8 shift 1 ;", "10 shift 1 1 1;", "7 repeat {}", "7 repeat -1{}", "9 repeat 1 tidy ink;",
            "8 repeat 1;", "9 repeat 1{;}", "10 repeat 1{}{}", "10 repeat 1{}}", "10 repeat 1{};", "9 repeat 1{1}"};
        int asked = 0;
        for (String f : faults) {
            if (asked++ % 20 == 0) on(promise);
            int blank = f.indexOf(' ');
            programFault(Integer.parseInt(f.substring(0, blank)), f.substring(blank + 1));
        }

        on("a PROGRAM: a WORD that is none of those told, letters a .. p");
        for (String letter : new String[] {"q", "z", "aa", "ap"}) programFault(13, "paint face 1 " + letter + "0;");
        programFault(16, "paint face 1 a0:q0;");
        programFault(0, "tidies face;");
        programFault(0, "or");
        programFault(5, "tidy faces;");
        programFault(5, "tidy not;");
        programFault(11, "paint face nones a0;");
        text(0, "paint face 1 a0; paint face 2 p15;");
        due(-102, "run", 0);
        due(16, "insert", 0, 0, 8);
        due(16, "insert", 1, 0, 8);
        due(2, "run", 0);
        due(1, "shown", 0, 0);
        due(2, "shown", 1515, 0);

        on("a PROGRAM: NUMBERS have 2 digits at most");
        programFault(11, "paint face 100 a0;");
        programFault(11, "paint face 001 a0;");
        programFault(14, "paint face 1 a000;");
        programFault(17, "paint face 1 a0:b100;");
        programFault(9, "rows ink 100 0 to 1;");
        programFault(11, "rows ink 1 100 to 1;");
        programFault(16, "rows ink 1 0 to 100;");
        programFault(12, "insert rows 100 by 1;");
        programFault(17, "insert rows 1 by 100;");
        programFault(6, "shift 100 0;");
        programFault(7, "shift -100 0;");
        programFault(8, "shift 0 100;");
        programFault(7, "repeat 100{}");
        text(0, "paint face 09 a00:b01; repeat 99 {} shift 99 -99; shift -99 99; paint ink 01 a07;");
        due(5, "run", 0);
        due(9, "all", 0, 101);
        due(1, "shown", 700, 2);
    }

    private void openRepeats() {
        on("at most 4 { are open at once");
        text(0, "repeat 1{repeat 1{repeat 1{repeat 1{tidy ink;}repeat 1{}}}}repeat 1{repeat 1{repeat 1{repeat 1{}}}}");
        due(10, "run", 0);
        programFault(44, "repeat 1{repeat 1{repeat 1{repeat 1{repeat 1{}}}}}");
        programFault(45, "repeat 1{repeat 1{repeat 1{repeat 1{repeat 1 {}}}}}");
        programFault(44, "repeat 1{repeat 1{repeat 1{repeat 1{repeat 1;}}}}");
        programFault(44, "repeat 1{repeat 1{repeat 1{repeat 1{repeat 1");
    }

    private void steps() {
        on("each that is begun is a STEP, also repeat itself: 60 run, a 61st BREAKS");
        text(0, "repeat 59{tidy face;}");
        due(60, "run", 0);
        text(1, "repeat 60{tidy face;}");
        due(-160, "run", 1);
        text(2, "repeat 1{repeat 29{tidy face;repeat 0{}}}");
        due(60, "run", 2);
        text(3, "repeat 1{repeat 29{tidy face;repeat 0{}}}tidy face;");
        due(-160, "run", 3);
        due(2, "count", 3);

        on("repeat: its LINES so many times: 0, 1, 99");
        text(0, "repeat 0{paint face 99 a0;repeat 9{tidy face;}}");
        due(1, "run", 0);
        text(1, "repeat 1{paint face 1 a0;}");
        due(2, "run", 1);
        text(2, "repeat 99{}");
        due(1, "run", 2);
        text(3, "repeat 58{repeat 99{}}repeat 99{}");
        due(60, "run", 3);
        due(1, "shown", 0, 0);

        on("repeat in repeat: as many times as both say");
        text(0, "repeat 3{repeat 4{insert columns 0 by 1;remove columns 0 to 0;}shift 1 0;}paint face 1 a0;");
        due(1 + 3 * (1 + 4 * 2 + 1) + 1, "run", 0);
        due(1, "shown", 300, 0);
        due(8, "count", 1);
        text(1, "repeat 2{repeat 2{repeat 2{repeat 2{shift 0 1;}}}}paint face 2 a0;");
        due(-132, "run", 1);
        due(16, "insert", 1, 8, 8);
        due(-132, "run", 1);
        text(2, "repeat 2{repeat 2{repeat 2{repeat 1{shift 0 1;}}}}paint face 2 a0;");
        due(1 + 2 + 4 + 8 + 8 + 1, "run", 2);
        due(2, "shown", 8, 0);
    }

    private void breaks() {
        on("where that would be refused, it BREAKS; then all is as ahead of it");
        due(1, "paint", 0, 1, 0);
        due(1, "paint", 0, 2, 0);
        due(1, "undo");
        text(0, "paint face 5 a0:h7;rows ink 3 0 to 7;columns fill 2 0 to 1;insert rows 0 by 8;remove columns 0 to 6;tidy face;"
                + "copy a0 to a1;shift 1 0;paint face 1 a15;");
        due(-109, "run", 0);
        due(1, "count", 3);
        due(1, "count", 4);
        cover(0, 0);
        due(8, "count", 0);
        due(8, "count", 1);
        due(0, "all", 2, 707);
        due(0, "all", 3, 707);
        due(0, "redo");
        due(2, "shown", 0, 0);

        on("a LINE does what the call does: each refusal BREAKS");
        String[] refused = {"paint face 10 a0;", "paint face 1 i0;", "paint face 1 a8;", "paint face 1 b0:a0;", "paint face 1 a1:a0;",
            "rows ink 10 0 to 0;", "rows ink 1 1 to 0;", "rows ink 1 0 to 8;", "columns ink 1 8 to 8;", "insert rows 9 by 1;",
            "insert rows 0 by 0;", "insert rows 0 by 9;", "insert columns 0 by 17;", "remove rows 0 to 7;", "remove rows 1 to 0;",
            "remove columns 0 to 8;", "copy i0 to a0;", "copy a0 to i0;", "turn a0:a8 to a0;", "turn a0 to b0:a0;"};
        for (int k = 0; k < refused.length; k++) {
            if (k % 4 == 0) on(promise);
            text(k % 4, refused[k]);
            due(-101, "run", k % 4);
            due(-101, "tests", k % 4, 0);
            due(0, "count", 3);
        }

        on("a LINE that a repeat begins again BREAKS, too");
        text(0, "repeat 9{remove rows 0 to 0;}");
        due(-109, "run", 0);
        due(8, "count", 0);
        text(1, "repeat 7{remove rows 0 to 0;}");
        due(8, "run", 1);
        due(1, "count", 0);

        on("else it is one REQUEST");
        text(0, "paint face 1 a0;paint face 2 b0;insert rows 0 by 1;");
        due(3, "run", 0);
        due(1, "count", 3);
        due(0, "undo");
        cover(0);
        due(8, "count", 0);
        due(0, "redo");
        cover(0, 1000100, 1010101);
    }

    private void origins() {
        on("ORIGIN: 0, 0 at first, at each run anew; shift: from then on");
        text(0, "paint face 1 a0;shift 2 3;paint face 1 a0;");
        due(3, "run", 0);
        cover(0, 0, 2030203);
        due(3, "run", 0);
        cover(0, 0, 2030203);
        text(1, "shift 7 0;shift 1 0;paint face 1 a0;");
        due(-103, "run", 1);
        text(2, "paint face 2 b0;");
        due(1, "run", 2);
        cover(0, 0, 10001, 2030203);

        on("ORIGIN: ahead of 0, 0 and far behind THE SHEET, and back");
        text(0, "shift -1 -1;paint face 1 b1;");
        due(2, "run", 0);
        text(1, "shift -1 0;paint face 1 b0;");
        due(-102, "run", 1);
        text(2, "shift 0 -1;paint face 1 a1;");
        due(-102, "run", 2);
        text(3, "repeat 28{shift 99 99;}repeat 28{shift -99 -99;}paint face 2 h7;");
        due(59, "run", 3);
        cover(0, 0, 7070707);
        on("ORIGIN: rows and columns of a LINE that are told below 0 or behind THE SHEET");
        text(0, "shift 1 0;rows ink 1 7 to 7;");
        due(-102, "run", 0);
        text(1, "shift -1 0;rows ink 1 0 to 1;");
        due(-102, "run", 1);
        text(2, "shift 0 -1;insert columns 0 by 1;");
        due(-102, "run", 2);
        text(3, "shift 0 1;remove columns 7 to 7;");
        due(-102, "run", 3);
        due(0, "count", 3);

        on("all rows and columns are told from the ORIGIN, of each LINE");
        text(0, "shift 1 2;rows face 1 0 to 0;columns face 2 0 to 0;insert rows 0 by 1;insert columns 0 by 1;paint ink 3 a0:b1;"
                + "copy a0 to a3;turn a0 to b3;");
        due(8, "run", 0);
        due(1, "under", 200, 0, 2);
        due(NONE, "under", 100, 0, 2);
        due(2, "under", 3, 0, 3);
        due(NONE, "under", 2, 0, 3);
        cover(2, 1020203, 4020403);
        text(1, "shift 1 2;remove rows 0 to 0;remove columns 0 to 0;");
        due(3, "run", 1);
        cover(2, 1020102, 3020302);
        due(1, "under", 100, 0, 2);
        due(2, "under", 2, 0, 3);
    }

    private void linesOfPrograms() {
        on("WHAT: none, or a NUMBER");
        due(1, "paint", 0, 4, 707);
        due(1, "lines", 0, 1, 4, 7);
        due(1, "lines", 1, 2, 4, 7);
        text(0, "paint face none b0:h7;rows size none 1 to 7;columns ink none 0 to 6;");
        due(3, "run", 0);
        cover(0, 700);
        due(4, "under", 0, 1, 2);
        due(NONE, "under", 100, 1, 2);
        due(4, "under", 7, 2, 3);
        due(NONE, "under", 6, 2, 3);

        on("AREA: a PLACE, or PLACE : PLACE (top left, bottom right)");
        text(0, "paint face 1 b2;paint size 2 b2:b2;paint ink 3 a0:h7;copy b2:c3 to e4:f5;turn a2:b2 to h0:h1;");
        due(5, "run", 0);
        cover(0, 1070107, 2010201, 4040404);
        due(3, "all", 2, 707);

        on("copy: COPY; turn: COPY, TURNED");
        due(1, "paint", 0, 1, 0);
        due(1, "paint", 0, 2, 10001);
        text(0, "copy a0:b0 to a2:b3;turn a0:b0 to a5:b6;");
        due(2, "run", 0);
        own(0, 2, 1, 2);
        own(0, 3, 1, 2);
        own(0, 5, 1, 1);
        own(0, 6, 2, 2);
    }

    private void inThought() {
        on("promise 46: A PROGRAM RUNS in thought: all stays as it is");
        text(0, "paint face 1 a0;insert rows 0 by 3;remove columns 0 to 0;paint ink 2 a0;paint fill 3 b0;");
        int[] answers = {5, 2, 1107, 3};
        for (int what = 0; what < 4; what++) due(answers[what], "tests", 0, what);
        for (int what : a(-1, 4, LEAST, MOST)) due(BAD, "tests", 0, what);
        due(0, "count", 3);
        due(8, "count", 0);
        due(8, "count", 1);
        due(1, "looks");
        cover(0);
        due(5, "run", 0);
        int[] later = {5, 3, 1406, 3};
        for (int what = 0; what < 4; what++) due(later[what], "tests", 0, what);

        on("promise 46: where it BREAKS, all is as ahead of it");
        due(1, "paint", 0, 1, 0);
        text(0, "paint size 2 b1;insert rows 0 by 2;paint ink 2 h8;remove columns 0 to 7;");
        int[] broken = {-104, 1, 808, 2};
        for (int what = 0; what < 4; what++) due(broken[what], "tests", 0, what);
        text(1, "repeat 61{insert rows 0 by 1;remove rows 0 to 0;}");
        due(-160, "tests", 1, 0);
        due(808, "tests", 1, 2);
        due(1, "count", 3);
        cover(0, 0);
    }
}
