/** Each promise of the document by itself: ordinary inputs, the edges that it names, and wrong inputs. */
public final class PromisesTest {
    private static final String SYMBOLS = "abcdPQRS";

    private static int wrong = 0;
    private static int promise = 0;

    public static void main(String[] args) {
        newObject();
        symbolArguments();
        symbolEffects();
        typeBytes();
        typeEdges();
        clauseCounts();
        clauseWrongPlaces();
        clauseFull();
        dropCounts();
        findSizes();
        findOrderOfCells();
        findLimits();
        findWithoutCells();
        findOut();
        moreGoesOn();
        moreRefused();
        moreOut();
        sizeFollows();
        valueCells();
        triesCounted();
        triesOfOneCall();
        checkLooks();
        checkRefused();
        caseKept();
        clausesCounted();
        System.out.println(wrong == 0 ? "all promises hold" : wrong + " answers are not as due");
        if (wrong != 0) {
            System.exit(1);
        }
    }

    private static void newObject() {
        promise = 1;
        StructureFinder f = new StructureFinder();
        due("clauses", f.clauses(), 0);
        due("size", f.size(), 0);
        due("tries", f.tries(), 0);
        due("more", f.more(), StructureFinder.NO);
        due("drop", f.drop(), StructureFinder.NO);
        for (char letter : SYMBOLS.toCharArray()) {
            due("value " + letter, f.value(letter, 0, 0), StructureFinder.BAD);
        }
        for (int variable = 0; variable < 3; variable++) {
            due("case", f.caseOf(variable), 0);
        }
        due("empty buffer", f.type('x', 1), 1);
        due("no function", clause(new StructureFinder(), "=ax"), -101);
        due("no predicate", clause(new StructureFinder(), "P"), -100);
        StructureFinder other = with("a0");
        clause(other, "=aa");
        due("objects are apart", f.clauses(), 0);
    }

    private static void symbolArguments() {
        promise = 2;
        StructureFinder f = new StructureFinder();
        for (char letter : SYMBOLS.toCharArray()) {
            for (int arity = -1; arity <= 2; arity++) {
                due("symbol " + letter + arity, f.symbol(letter, arity), true);
            }
            due("arity 3", f.symbol(letter, 3), false);
            due("arity -2", f.symbol(letter, -2), false);
            due("least arity", f.symbol(letter, Integer.MIN_VALUE), false);
            due("greatest arity", f.symbol(letter, Integer.MAX_VALUE), false);
        }
        for (char letter : "`eOTAxyz=!| ~\0\u0161\uffff".toCharArray()) {
            for (int arity = -1; arity <= 2; arity++) {
                due("symbol " + letter, f.symbol(letter, arity), false);
            }
        }
    }

    private static void symbolEffects() {
        promise = 2;
        StructureFinder f = with("a1 P1");
        clause(f, "Pax");
        f.find(2);
        f.symbol('e', 1);
        f.symbol('a', 3);
        due("nothing done", f.clauses(), 1);
        due("structure stays", f.size(), 1);
        due("more goes on", f.more(), 0);
        f.find(1);
        due("the same again", f.symbol('a', 1), true);
        due("clauses go", f.clauses(), 0);
        due("no structure", f.size(), 0);
        due("no value", f.value('a', 0, 0), StructureFinder.BAD);
        due("no more", f.more(), StructureFinder.NO);
        due("a with two terms", clause(withSymbol(f, 'a', 2), "=axyx"), 1);
        due("a goes", f.symbol('a', -1), true);
        due("clauses go too", f.clauses(), 0);
        due("a is not there", clause(f, "=axyx"), -101);
        f.find(1);
        due("a goes again", f.symbol('a', -1), true);
        due("no structure again", f.size(), 0);
        type(f, "Px");
        f.symbol('P', 1);
        due("the buffer stays", f.clause(), 1);
    }

    private static void typeBytes() {
        promise = 3;
        StructureFinder f = new StructureFinder();
        due("highest first", f.type(0x213D7878L, 4), 4);
        due("it is !=xx", f.clause(), 1);
        due("no structure in which it holds", f.find(4), 0);
        f.drop();
        due("higher bytes do not matter", f.type(0x00FF003D7878L, 3), 3);
        due("it is =xx", f.clause(), 1);
        due("eight with the sign", f.type(0x7E7E7E7E7E7E7E7EL, 8), 8);
        due("behind", f.type(0x3D7878L, 2), 10);
        due("emptied", f.clause(), -100);
        due("one after it", f.type(0x21, 1), 1);
        due("negative higher bytes", f.type(-256L | 0x21, 1), 2);
    }

    private static void typeEdges() {
        promise = 3;
        StructureFinder f = new StructureFinder();
        due("n 0", f.type('x', 0), StructureFinder.BAD);
        due("n -1", f.type('x', -1), StructureFinder.BAD);
        due("n 9", f.type(0x7878787878787878L, 9), StructureFinder.BAD);
        due("least n", f.type('x', Integer.MIN_VALUE), StructureFinder.BAD);
        due("greatest n", f.type('x', Integer.MAX_VALUE), StructureFinder.BAD);
        for (int c = 0; c < 256; c++) {
            StructureFinder fresh = new StructureFinder();
            boolean good = c >= 33 && c <= 126;
            due("byte " + c, fresh.type(c, 1), good ? 1 : StructureFinder.BAD);
            due("byte " + c + " of three", fresh.type(0x780078L | c << 8, 3),
                    good ? 4 : StructureFinder.BAD);
            due("nothing of it stays", fresh.type('x', 1), good ? 5 : 1);
        }
        due("negative", f.type(-1L, 8), StructureFinder.BAD);
        for (int i = 1; i <= 7; i++) {
            due("eight more", f.type(0x7878787878787878L, 8), 8 * i);
        }
        due("61", f.type(0x7878787878L, 5), StructureFinder.FULL);
        due("nothing came", f.type(0x787878L, 3), 59);
        due("61 again", f.type(0x7878L, 2), StructureFinder.FULL);
        due("60", f.type('x', 1), 60);
        due("full", f.type('x', 1), StructureFinder.FULL);
        due("bad goes before full", f.type(32, 1), StructureFinder.BAD);
        due("n goes before full", f.type('x', 9), StructureFinder.BAD);
        f.clause();
        due("emptied", f.type('x', 1), 1);
    }

    private static void clauseCounts() {
        promise = 4;
        StructureFinder f = with("a0 b1 c2 P0 Q1 R2");
        String[] right = {"=xy", "!=xa", "P", "!P|Qbx", "Rcxycaz", "=cbacxybz|!Rzz|=xx", "P|P|P", "!Rbbbaz"};
        for (int i = 0; i < right.length; i++) {
            due(right[i], clause(f, right[i]), i + 1);
        }
        StructureFinder longest = with("b1");
        String text = "=".concat("b".repeat(57)).concat("xy");
        due("60 characters", clause(longest, text), 1);
        due("60 characters, not at an end", clause(longest, "=".concat("b".repeat(59))), -160);
        due("59 characters, not at an end", clause(longest, "=".concat("b".repeat(58))), -159);
        due("60 characters, wrong at the last", clause(longest, "=".concat("b".repeat(56)).concat("xyz")), -159);
        due("it looks through 57 functions", longest.find(1), 1);
    }

    private static void clauseWrongPlaces() {
        promise = 4;
        String[] texts = {"", "=", "!", "=x", "=xy|", "=xy|!", "=xyz", "!!=xy", "x", "a", "=xP", "=x=", "=x!", "=x|",
            "|", "=xy||=xy", "=xy!=xy", "=xy=xy", "Q", "Qx", "Rx", "Rxyz", "Px", "P!", "P|!Q", "S", "=dx", "Qd", "QQ",
            "=bxcx", "=cxyaa", "!x", "=X", "=x,y", "=a", "Rcaa", "~", "P|=x", "Ry|"};
        int[] places = {0, 1, 1, 2, 4, 5, 3, 1, 0, 0, 2, 2, 2, 2,
            0, 4, 3, 3, 1, -1, 2, 3, 1, 1, 4, 0, 1, 1, 1,
            5, 5, 1, 1, 2, 2, 4, 0, 4, 2};
        for (int i = 0; i < texts.length; i++) {
            StructureFinder f = with("a0 b1 c2 P0 Q1 R2");
            due("wrong: " + texts[i], clause(f, texts[i]), places[i] < 0 ? 1 : -100 - places[i]);
            due("how many then", f.clauses(), places[i] < 0 ? 1 : 0);
            due("the buffer is empty", f.type('x', 1), 1);
        }
    }

    private static void clauseFull() {
        promise = 4;
        StructureFinder f = with("P0");
        for (int i = 1; i <= 8; i++) {
            due("clause", clause(f, "P"), i);
        }
        due("ninth", clause(f, "P"), StructureFinder.FULL);
        due("the buffer is empty", f.type('P', 1), 1);
        due("ninth again", f.clause(), StructureFinder.FULL);
        due("an empty text before full", f.clause(), -100);
        due("a wrong text before full", clause(f, "P|Q"), -102);
        due("the buffer is empty behind it", f.type('P', 1), 1);
        due("wrong at the end before full", clause(f, "|=x"), -104);
        due("still eight", f.clauses(), 8);
        f.find(1);
        due("nothing came", clause(f, "P"), StructureFinder.FULL);
        due("nor by a wrong one", clause(f, "!"), -101);
        due("so more goes on", f.more(), 0);
        f.drop();
        due("room again", clause(f, "!P"), 8);
        due("it counts", f.find(4), 0);
    }

    private static void dropCounts() {
        promise = 5;
        StructureFinder f = with("P0");
        due("none", f.drop(), StructureFinder.NO);
        clause(f, "P");
        clause(f, "!P");
        due("none with both", f.find(2), 0);
        due("the last goes", f.drop(), 1);
        due("the first stays", f.find(2), 1);
        due("it says", f.value('P', 0, 0), 1);
        due("the structure stays", f.drop() + 10 * f.size(), 10);
        due("none left", f.drop(), StructureFinder.NO);
        due("without clauses", f.find(2), 1);
        due("the first value", f.value('P', 0, 0), 0);
    }

    private static void findSizes() {
        promise = 6;
        StructureFinder f = with("a0 b0 c0 d0");
        due("one", f.find(4), 1);
        clause(f, "!=ab");
        due("none of size 1", f.find(1), 0);
        due("two", f.find(4), 2);
        clause(f, "!=ac");
        clause(f, "!=bc");
        due("none up to 2", f.find(2), 0);
        due("three", f.find(4), 3);
        clause(f, "!=ad");
        clause(f, "!=bd");
        clause(f, "!=cd");
        due("none up to 3", f.find(3), 0);
        due("four", f.find(4), 4);
        for (int n : new int[] {0, 5, -1, Integer.MIN_VALUE, Integer.MAX_VALUE}) {
            due("find " + n, f.find(n), StructureFinder.BAD);
            due("the structure stays", f.size(), 4);
        }
        due("more goes on behind it", f.more(), 0);
        f.find(4);
        due("none", f.find(3), 0);
        due("no structure any more", f.size(), 0);
        due("no value", f.value('a', 0, 0), StructureFinder.BAD);
        StructureFinder five = with("a1");
        clause(five, "!=axx");
        clause(five, "!=aaxx");
        clause(five, "!=aaaxx");
        clause(five, "!=aaaaxx");
        due("five would be needed", five.find(4), 0);
    }

    /** Structures follow one another as numbers do whose last digit is the last cell: that tells the order. */
    private static void findOrderOfCells() {
        promise = 6;
        countsThrough("c0 d0 R0 P2 Q1", "R00 P00 Q00 P01 P10 P11 Q10");
        countsThrough("c0 d0 Q0 P0", "P00 Q00");
        countsThrough("c0 d0 a1 b1 P1", "a00 b00 P00 a10 b10 P10");
        countsThrough("c0 d0 P1 a2", "a00 P00 a01 a10 a11 P10");
        countsThrough("c0 d0 Q2 a1", "a00 Q00 a10 Q01 Q10 Q11");
        countsThrough("c0 d0 R1 Q2", "Q00 R00 Q01 Q10 Q11 R10");
    }

    /** Two constants that differ make the size 2, so that every cell behind them has the values 0 and 1. */
    private static void countsThrough(String symbols, String cells) {
        String[] inOrder = cells.split(" ");
        for (int k = 0; k < inOrder.length; k++) {
            countsThrough(symbols, inOrder[k], inOrder.length, inOrder.length - 1 - k);
        }
    }

    /** One object for each cell, because the document promises 512 calls of one. */
    private static void countsThrough(String symbols, String cell, int cells, int behind) {
        StructureFinder f = with(symbols);
        clause(f, "!=cd");
        due("size for " + cell, f.find(4), 2);
        for (int number = 0; number < 1 << cells; number++) {
            due("cell " + cell + " of structure " + number,
                    f.value(cell.charAt(0), cell.charAt(1) - '0', cell.charAt(2) - '0'), number >> behind & 1);
            due("more", f.more(), number + 1 < 1 << cells ? 1 : 0);
        }
    }

    private static void findLimits() {
        promise = 6;
        finds("the first constant is 0 alone", "a0 b0", "!=ab", 2, 5);
        finds("a constant is one more at most", "a0 b0 c0", "!=ab !=ac !=bc", 3, 13);
        finds("its own argument counts", "a1", "!=axx", 2, 4);
        StructureFinder f = finds("values before count", "a1", "!=axx !=aaxx", 3, 11);
        due("a of 0 is never 2", f.more(), 0);
        due("so these were tried", f.tries(), 2);
        f = finds("a predicate's value does not count", "a1 P0", "P !=axx !=aaxx", 3, 17);
        due("a of 0 is never 2 with P", f.more(), 0);
        due("so these were tried with P", f.tries(), 2);
        f = finds("a predicate has two values in size 1", "P1", "Px", 1, 2);
        due("1", f.value('P', 0, 0), 1);
    }

    private static StructureFinder finds(String what, String symbols, String texts, int size, int tries) {
        StructureFinder f = with(symbols);
        for (String text : texts.split(" ")) {
            clause(f, text);
        }
        due(what, f.find(4), size);
        due(what.concat(", tries"), f.tries(), tries);
        return f;
    }

    private static void findWithoutCells() {
        promise = 6;
        StructureFinder f = new StructureFinder();
        due("nothing at all", f.find(4), 1);
        due("no tries", f.tries(), 0);
        due("no more", f.more(), 0);
        clause(f, "=xy");
        due("only size 1", f.find(4), 1);
        clause(f, "!=yz");
        due("none", f.find(4), 0);
        finds("broken without any cell", "a0 P2", "!=xx", 0, 0);
        finds("broken without any cell but in size 1", "a0 b0", "!=ab =xy", 0, 2);
        finds("three are too many for two", "a0 b0", "!=ab =xy|=yz|=xz", 2, 5);
    }

    private static void findOut() {
        promise = 6;
        String hard = "!=ab !Rxa|!Pxa Rab|!Sx !Sb|Qb !Qb Qx|Sx !Sb";
        StructureFinder f = finds("3000 are not enough", "a0 b0 P2 Q1 R2 S1", hard, StructureFinder.OUT, 3000);
        due("3000 are all that sizes 1 to 3 need", f.find(3), 0);
        due("3000", f.tries(), 3000);
        finds("the 3000th finds", "a0 b0 P2 Q1 R2 S2", "!=ab Paa|Sxb !Sax|!Qa Rxb|!Sxa !Rax|!Sax !Sbb", 2, 3000);
        f = with("a0 b0 P2 Q2 R2 S1");
        due("found without clauses", f.find(4), 1);
        for (String text : "!=ab !Rbx|!Rxx !Rab|Sx Rbb|Qax !Sb".split(" ")) {
            clause(f, text);
        }
        due("the 3001st would find", f.find(4), StructureFinder.OUT);
        due("3000 were made", f.tries(), 3000);
        due("no structure any more", f.size(), 0);
        due("no value any more", f.value('a', 0, 0), StructureFinder.BAD);
        due("no more", f.more(), StructureFinder.NO);
    }

    private static void moreGoesOn() {
        promise = 7;
        StructureFinder f = with("a0 b0 P1");
        clause(f, "!=ab");
        f.find(3);
        for (int number = 1; number < 4; number++) {
            due("the next one", f.more(), 1);
            due("P of 0", f.value('P', 0, 0), number >> 1);
            due("P of 1", f.value('P', 1, 0), number & 1);
            due("its size", f.size(), 2);
        }
        due("no next one, and no greater size", f.more(), 0);
        due("no structure any more", f.size(), 0);
        due("no value any more", f.value('P', 0, 0), StructureFinder.BAD);
        due("no more", f.more(), StructureFinder.NO);
        StructureFinder between = with("P0");
        between.find(1);
        type(between, "P");
        due("P does not hold", between.check(), 0);
        due("a check between", between.more(), 1);
        due("P holds", check(between, "P"), 1);
        between.find(1);
        due("from the beginning again", between.value('P', 0, 0), 0);
    }

    private static void moreRefused() {
        promise = 7;
        StructureFinder f = with("P0 Q0");
        due("before", f.more(), StructureFinder.NO);
        f.find(1);
        clause(f, "P|Q");
        due("a clause came", f.more(), StructureFinder.NO);
        due("the structure stays", f.size(), 1);
        due("its value stays", f.value('Q', 0, 0), 0);
        f.drop();
        due("it came and went", f.more(), StructureFinder.NO);
        f.find(1);
        due("found anew", f.more(), 1);
        due("wrong text", clause(f, "P|"), -102);
        due("no clause came", f.more(), 1);
        due("no clause is there", f.drop(), StructureFinder.NO);
        due("none went", f.more(), 1);
        clause(f, "P|Q");
        f.find(1);
        due("Q first", f.value('Q', 0, 0), 1);
        due("bad", f.find(5), StructureFinder.BAD);
        due("goes on behind a bad find", f.more(), 1);
        due("then P", f.value('P', 0, 0), 1);
        f.drop();
        due("a clause went", f.more(), StructureFinder.NO);
        due("the structure stays then", f.value('P', 0, 0), 1);
        f.find(1);
        f.symbol('P', 0);
        due("a symbol came", f.more(), StructureFinder.NO);
    }

    private static void moreOut() {
        promise = 7;
        StructureFinder f = finds("all are 0", "a0 b0 P2 Q2 R2 S2",
                "!=ab !Pxy|Sbb !Qxy|Sbb !Rxy|Sbb !Sxy|Sbb !Sbb", 2, 1 + 1 + 1 + 2 + 16);
        due("out", f.more(), StructureFinder.OUT);
        due("3000", f.tries(), 3000);
        due("no structure any more", f.size(), 0);
        due("no value any more", f.value('P', 0, 0), StructureFinder.BAD);
        due("refused then", f.more(), StructureFinder.NO);
        due("found again", f.find(4), 2);
    }

    private static void sizeFollows() {
        promise = 8;
        StructureFinder f = with("a0 b0 c0");
        due("before", f.size(), 0);
        f.find(4);
        due("1", f.size(), 1);
        clause(f, "!=ab");
        due("still 1", f.size(), 1);
        f.find(4);
        due("2", f.size(), 2);
        f.find(1);
        due("none", f.size(), 0);
        f.find(2);
        f.find(0);
        due("2 behind a bad find", f.size(), 2);
        f.symbol('d', 3);
        due("2 behind a bad symbol", f.size(), 2);
        f.symbol('d', 1);
        due("none behind a symbol", f.size(), 0);
    }

    private static void valueCells() {
        promise = 9;
        StructureFinder f = with("a0 b1 c2 P0 Q1 R2");
        for (String text : "!=bxx =cxyx P Qa !Qba Rxbx !Rxx".split(" ")) {
            clause(f, text);
        }
        due("size", f.find(4), 2);
        int least = Integer.MIN_VALUE;
        int greatest = Integer.MAX_VALUE;
        due("a", f.value('a', least, greatest), 0);
        due("P", f.value('P', greatest, least), 1);
        due("b of 0", f.value('b', 0, greatest), 1);
        due("b of 1", f.value('b', 1, -1), 0);
        due("Q of 0", f.value('Q', 0, least), 1);
        due("Q of 1", f.value('Q', 1, 2), 0);
        for (int i = 0; i < 2; i++) {
            for (int j = 0; j < 2; j++) {
                due("c", f.value('c', i, j), i);
                due("R", f.value('R', i, j), i == j ? 0 : 1);
            }
        }
        for (int number : new int[] {-1, 2, 3, 4, least, greatest}) {
            due("b of no argument", f.value('b', number, 0), StructureFinder.BAD);
            due("Q of no argument", f.value('Q', number, 0), StructureFinder.BAD);
            due("first of c", f.value('c', number, 0), StructureFinder.BAD);
            due("second of c", f.value('c', 0, number), StructureFinder.BAD);
            due("first of R", f.value('R', number, 1), StructureFinder.BAD);
            due("second of R", f.value('R', 1, number), StructureFinder.BAD);
        }
        for (char letter : "dSexyz=!|T`O \0\u0161\uffff".toCharArray()) {
            due("none that is there", f.value(letter, 0, 0), StructureFinder.BAD);
        }
        f.find(1);
        due("no structure", f.value('a', 0, 0), StructureFinder.BAD);
        StructureFinder four = with("a1 c2 P1");
        for (String text : "Px|Pax !Px|!Pax !=aaxx =cxyx".split(" ")) {
            clause(four, text);
        }
        due("size 4", four.find(4), 4);
        for (int number : new int[] {-1, 4, 16, least, greatest}) {
            due("a of no argument in size 4", four.value('a', number, 0), StructureFinder.BAD);
            due("first of c in size 4", four.value('c', number, 0), StructureFinder.BAD);
            due("second of c in size 4", four.value('c', 0, number), StructureFinder.BAD);
        }
        due("c of 3 and 3", four.value('c', 3, 3), 3);
    }

    private static void triesCounted() {
        promise = 10;
        StructureFinder f = with("a1 P1");
        due("before", f.tries(), 0);
        f.find(1);
        due("a and P", f.tries(), 2);
        due("P of 0", f.more(), 1);
        due("one more", f.tries(), 1);
        due("none", f.more(), 0);
        due("none tried", f.tries(), 0);
        clause(f, "Px|Pax");
        clause(f, "!Px|!Pax");
        clause(f, "!=aaxx");
        due("sizes 1 and 2", f.find(2), 0);
        due("4", f.find(4), 4);
        due("the tries of all sizes", f.tries(), 51);
        check(f, "Px");
        f.drop();
        f.value('a', 0, 0);
        due("other calls do not matter", f.tries(), 51);
        f.symbol('a', -1);
        due("nor does a symbol", f.tries(), 51);
    }

    private static void triesOfOneCall() {
        promise = 10;
        StructureFinder f = with("P0");
        f.find(1);
        due("P", f.tries(), 1);
        f.find(0);
        due("a bad find made none", f.tries(), 0);
        f.find(1);
        clause(f, "P");
        due("refused", f.more(), StructureFinder.NO);
        due("a refused more made none", f.tries(), 0);
    }

    private static void checkLooks() {
        promise = 11;
        StructureFinder f = with("a1 b0 P0");
        clause(f, "!=axx");
        f.find(4);
        due("holds", check(f, "=aaxx"), 1);
        due("holds in size 2", check(f, "=xy|=xz|=yz"), 1);
        due("one literal is enough", check(f, "P|=axx|!P"), 1);
        broken(f, "P", 0, 0, 0);
        broken(f, "=axx", 0, 0, 0);
        broken(f, "!=axb", 1, 0, 0);
        broken(f, "=xy", 0, 1, 0);
        broken(f, "=zx", 0, 0, 1);
        broken(f, "=zy", 0, 0, 1);
        broken(f, "=yb", 0, 1, 0);
        broken(f, "=zb", 0, 0, 1);
        broken(f, "!=axz|=yx", 0, 1, 1);
        broken(f, "=axy|=xz", 0, 0, 1);
        broken(f, "=xb|=yb|=zb", 1, 1, 1);
        clause(f, "P");
        due("clauses do not matter", check(f, "!P"), 1);
        f.drop();
        f.drop();
        due("nor when they went", check(f, "!=axx"), 1);
        due("the size is as before", f.size(), 2);
    }

    private static void broken(StructureFinder f, String text, int x, int y, int z) {
        due("broken: " + text, check(f, text), 0);
        due("x of " + text, f.caseOf(0), x);
        due("y of " + text, f.caseOf(1), y);
        due("z of " + text, f.caseOf(2), z);
    }

    private static void checkRefused() {
        promise = 11;
        due("an empty text on a new object", new StructureFinder().check(), -100);
        StructureFinder f = with("P0");
        due("no structure", check(f, "P"), StructureFinder.NO);
        due("the buffer is empty", f.type('P', 1), 1);
        due("no structure again", f.check(), StructureFinder.NO);
        due("an empty text without a structure", f.check(), -100);
        due("a wrong text without a structure", check(f, "P|Q"), -102);
        due("the buffer is empty behind it", f.type('P', 1), 1);
        due("wrong at the end without a structure", check(f, "|=x"), -104);
        for (int i = 0; i < 8; i++) {
            clause(f, "P");
        }
        f.find(1);
        due("empty", f.check(), -100);
        due("wrong", check(f, "P|Q"), -102);
        due("the buffer is empty then", f.type('P', 1), 1);
        due("not at an end", check(f, "|!"), -103);
        due("eight clauses do not matter", check(f, "P"), 1);
        due("the buffer is empty behind it", f.type('P', 1), 1);
        f.clause();
        due("none came", f.clauses(), 8);
        check(f, "!P");
        due("more goes on", f.more(), 0);
    }

    private static void caseKept() {
        promise = 12;
        StructureFinder f = with("a0 b0");
        clause(f, "!=ab");
        f.find(2);
        check(f, "=xx");
        due("0 before", f.caseOf(0) + f.caseOf(1) + f.caseOf(2), 0);
        broken(f, "=xa|=yb|=za", 1, 0, 1);
        check(f, "=xx");
        check(f, "=x");
        clause(f, "=xx");
        f.find(9);
        f.find(1);
        check(f, "=xy");
        f.symbol('a', 1);
        due("x is kept", f.caseOf(0), 1);
        due("y is kept", f.caseOf(1), 0);
        due("z is kept", f.caseOf(2), 1);
        for (int variable : new int[] {-1, 3, 'x', Integer.MIN_VALUE, Integer.MAX_VALUE}) {
            due("variable " + variable, f.caseOf(variable), StructureFinder.BAD);
        }
    }

    private static void clausesCounted() {
        promise = 13;
        StructureFinder f = with("P0");
        due("none", f.clauses(), 0);
        clause(f, "P");
        clause(f, "P");
        due("two", f.clauses(), 2);
        clause(f, "Q");
        due("a wrong one does not count", f.clauses(), 2);
        f.find(1);
        check(f, "P");
        due("a check does not count", f.clauses(), 2);
        f.drop();
        due("one", f.clauses(), 1);
        for (int i = 0; i < 9; i++) {
            clause(f, "P");
        }
        due("eight", f.clauses(), 8);
        f.symbol('Z', 0);
        due("eight still", f.clauses(), 8);
        f.symbol('S', -1);
        due("all go", f.clauses(), 0);
    }

    private static StructureFinder with(String symbols) {
        StructureFinder f = new StructureFinder();
        for (String symbol : symbols.split(" ")) {
            withSymbol(f, symbol.charAt(0), symbol.charAt(1) - '0');
        }
        return f;
    }

    private static StructureFinder withSymbol(StructureFinder f, char letter, int arity) {
        f.symbol(letter, arity);
        return f;
    }

    private static void type(StructureFinder f, String text) {
        for (char c : text.toCharArray()) {
            f.type(c, 1);
        }
    }

    private static int clause(StructureFinder f, String text) {
        type(f, text);
        return f.clause();
    }

    private static int check(StructureFinder f, String text) {
        type(f, text);
        return f.check();
    }

    private static void due(String what, boolean got, boolean want) {
        due(what, got ? 1 : 0, want ? 1 : 0);
    }

    private static void due(String what, int got, int want) {
        if (got != want) {
            wrong++;
            System.out.println("promise " + promise + ", " + what + ": answered " + got + ", due is " + want);
        }
    }
}
