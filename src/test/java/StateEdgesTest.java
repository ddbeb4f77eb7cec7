/** The tape, the book, images and refusals, on both sides of every bound that the document names. */
public final class StateEdgesTest {
    private static final int NONE = -1;
    private static final int LOW = Integer.MIN_VALUE;
    private static final int HIGH = Integer.MAX_VALUE;

    public static void main(String[] args) {
        newObject();
        tapeUpToSixHundred();
        highestByteFirst();
        valleyOfNoBytes();
        valleyOfAllBytes();
        refusedValleyKeepsAll();
        faultKeepsAll();
        valleyForgetsAll();
        placeOfTheLatest();
        nineLines();
        linesThatAreSo();
        timesOfTheBook();
        manyOfTheBook();
        explainedWithoutMaybeCells();
        explainedByOneToEight();
        explainedByNone();
        facesOnMaybeCells();
        inAllAndInNone();
        askWithoutCells();
        askWhereNothingParts();
        askTheFirst();
        askTheWorst();
        askByEachWay();
        askPastOtherCells();
        threeImages();
        imagesKeepTheirParts();
        imagesKeepTheLastCell();
        imagesKeepNothingElse();
        statusCountsByReason();
        statusOfOthers();
        sumsOfOthers();
        Check.end("StateEdgesTest");
    }

    /** "No cells." */
    private static void newObject() {
        SoldEchoes e = new SoldEchoes();
        Check.due("no width", e.told(0), 0);
        Check.due("no height", e.told(1), 0);
        Check.due("20 without loud", e.told(7), 20);
        Check.due("0 without law", e.told(8), 0);
        Check.noCell("no cell", () -> e.cell(0, 0, 0));
        Check.noCell("no cell to build on", () -> e.build(0, 0));
        Check.noField("no field", () -> e.field(0, 0));
        Check.due("no fault", e.fault(), NONE);
        Check.due("one set explains an empty book", e.explain(0), 1);
        Check.due("the set of none", e.explain(1), 0);
        Check.due("cells in all", e.explain(2), 0);
        Check.due("cells in none", e.explain(3), 0);
        Check.due("no lines to forget", e.forget(), 0);
        Check.due("an image all the same", e.image(), 1);
        Check.due("back to it", e.restore(), 0);
    }

    /** "how many there are; NONE, doing nothing, if there would be more than 600" */
    private static void tapeUpToSixHundred() {
        SoldEchoes e = new SoldEchoes();
        Check.due("no bytes", e.sums(1), 0);
        e.feed(0x76616C6C, 0x65792032, 0x20323B20, 0x20202020, 0x20202020);
        for (int i = 2; i <= 30; i++) {
            Check.due("feed " + i, e.feed(0x20202020, 0x20202020, 0x20202020, 0x20202020, 0x20202020), 20 * i);
        }
        for (int i = 0; i < 3; i++) {
            Check.due("more than 600", e.feed(-1, -1, -1, -1, -1), NONE);
            Check.due("600 bytes", e.sums(1), 600);
        }
        Check.due("not refused by an exception", e.status(2), 0);
        Check.due("the bytes are those of before", e.valley(600), 0);
        Check.due("W", e.told(0), 2);
        Check.due("no bytes again", e.sums(1), 0);
        Check.due("room again", e.feed(0, 0, 0, 0, 0), 20);
    }

    /** "of each number the highest first" */
    private static void highestByteFirst() {
        SoldEchoes e = new SoldEchoes();
        e.feed(0x76616C6C, 0x65792034, 0x20373B6C, 0x6F756420, 0x39373B20);
        Check.due("valley 4 7;loud 97;", e.valley(20), 0);
        Check.due("W", e.told(0), 4);
        Check.due("H", e.told(1), 7);
        Check.due("S", e.told(7), 97);
        int[] all = new int[5];
        for (int at = 0; at < 20; at++) {
            for (int high : new int[] {0x00, 0x7F, 0x80, 0xA0, 0xFF}) {
                java.util.Arrays.fill(all, 0x20202020);
                int shift = 24 - at % 4 * 8;
                all[at / 4] = 0x20202020 & ~(0xFF << shift) | high << shift;
                Check.due("twenty bytes", e.feed(all[0], all[1], all[2], all[3], all[4]), 20);
                Check.due("byte " + high + " at " + at, e.valley(20), -9);
                Check.due("its place", e.fault(), at);
            }
        }
    }

    /** "IllegalArgumentException: n is not 0 to the TAPE's bytes (it stays)" */
    private static void valleyOfNoBytes() {
        SoldEchoes e = new SoldEchoes();
        Check.due("0 of 0 bytes", e.valley(0), 0);
        Check.noArgument("1 of 0 bytes", () -> e.valley(1));
        Check.noArgument("-1 of 0 bytes", () -> e.valley(-1));
        Check.tell(e, "valley 2 2;");
        Check.tape(e, "valley 3 3;");
        Check.due("0 of 20 bytes", e.valley(0), 0);
        Check.due("the tape is empty then", e.sums(1), 0);
        Check.due("no cells", e.told(0), 0);
    }

    private static void valleyOfAllBytes() {
        SoldEchoes e = new SoldEchoes();
        Check.tape(e, "valley 3 3;field 0 0 1 1 1;             ");
        Check.noArgument("41 of 40 bytes", () -> e.valley(41));
        Check.noArgument("HIGH of 40 bytes", () -> e.valley(HIGH));
        Check.noArgument("LOW of 40 bytes", () -> e.valley(LOW));
        Check.due("it stays", e.sums(1), 40);
        Check.due("40 of 40 bytes", e.valley(40), 1);
        Check.noArgument("40 of none", () -> e.valley(40));
        Check.due("counted", e.status(2), 4);
    }

    private static void refusedValleyKeepsAll() {
        SoldEchoes e = Check.valleyOf("valley 3 2;field 0 0 1 1 1;loud 7;law 1;");
        e.image();
        e.book(0, 0, 1, 0);
        Check.tape(e, "valley 2 2;");
        Check.noArgument("one byte too many", () -> e.valley(21));
        Check.due("W", e.told(0), 3);
        Check.due("fields", e.told(2), 1);
        Check.due("lines", e.told(10), 1);
        Check.due("images", e.sums(0), 1);
        Check.due("bytes", e.sums(1), 20);
        Check.due("the bytes stay too", e.valley(11), 0);
        Check.due("W of these", e.told(0), 2);
    }

    /** "or the FAULT less 10 (all stays)" */
    private static void faultKeepsAll() {
        String text = "valley 4 3;face 1 1 7;wood 2 2 6;snow 3 2 5;field 0 0 1 1 8;site 2 0 3;season 2 2;maybe 0 2;loud 33;law 2;";
        String[] faulty = {"x", "valley 9 9;face 8 8 1;wood 8 8 1;loud 9;law 1;snow 0 0 1;field 0 0 8 8 9;site 0 0 1;season 0 1;maybe 0 0;!",
            "valley 9 9;law 3;", "valley 9 9;" + "site 0 0 1;".repeat(5)};
        int[] answers = {-9, -9, -8, -7};
        for (int i = 0; i < faulty.length; i++) {
            SoldEchoes e = Check.valleyOf(text);
            e.build(0, 0);
            e.image();
            e.fell(2, 2);
            e.years(5);
            e.book(3, 2, 2, 0);
            Check.due("the fault less 10", Check.tell(e, faulty[i]), answers[i]);
            int[] due = {4, 3, 1, 1, 1, 1, 1, 33, 2, 5, 1};
            for (int what = 0; what < due.length; what++) {
                Check.due("told(" + what + ") behind a fault", e.told(what), due[what]);
            }
            Check.due("the barn", e.cell(0, 0, 0), 5);
            Check.due("the face", e.cell(1, 1, 0), 7);
            Check.due("the felled wood", e.cell(2, 2, 1), 0);
            Check.due("the field", e.field(0, 4), 8);
            Check.due("the image", e.restore(), 0);
            Check.due("its wood", e.cell(2, 2, 1), 6);
            Check.due("its years", e.told(9), 0);
        }
    }

    /** "(no BARNS, YEARS, BOOK, IMAGES)" */
    private static void valleyForgetsAll() {
        for (String text : new String[] {"valley 3 3;", ""}) {
            SoldEchoes e = Check.valleyOf("valley 3 3;wood 1 1 1;face 2 2 2;");
            e.build(0, 0);
            e.years(20);
            e.book(0, 0, 1, 0);
            e.image();
            e.image();
            Check.tell(e, text);
            Check.due("no years", e.told(9), 0);
            Check.due("no lines", e.told(10), 0);
            Check.due("no images", e.sums(0), 0);
            Check.due("none to go back to", e.restore(), NONE);
            Check.due("no lines to forget", e.forget(), 0);
        }
        SoldEchoes e = Check.valleyOf("valley 3 3;wood 1 1 1;face 2 2 2;face 0 0 3;wood 0 0 4;wood 2 2 5;");
        e.build(1, 0);
        Check.tell(e, "valley 3 3;");
        for (int cell = 0; cell < 9; cell++) {
            Check.due("no face", e.cell(cell % 3, cell / 3, 0), 0);
            Check.due("no wood", e.cell(cell % 3, cell / 3, 1), 0);
        }
    }

    /** "The place of the FAULT of the latest valley(); NONE without." */
    private static void placeOfTheLatest() {
        SoldEchoes e = new SoldEchoes();
        Check.due("before any", e.fault(), NONE);
        Check.tell(e, "x");
        Check.due("at 0", e.fault(), 0);
        Check.tell(e, "valley 2 2");
        Check.due("at the length", e.fault(), 10);
        Check.due("asked again", e.fault(), 10);
        e.image();
        e.restore();
        Check.due("no image keeps it", e.fault(), 10);
        Check.tell(e, "valley 2 2;");
        Check.due("without", e.fault(), NONE);
        Check.tell(e, " 7");
        Check.due("at 1", e.fault(), 1);
        Check.tell(e, "");
        Check.due("without, of no bytes", e.fault(), NONE);
    }

    /** "9 lines at most": "how many lines; -1: there are 9" */
    private static void nineLines() {
        SoldEchoes e = Check.valleyOf("valley 2 2;maybe 1 0;");
        for (int i = 1; i <= 9; i++) {
            Check.due("line " + i, e.book(0, 0, 2, 1), i);
            Check.due("told", e.told(10), i);
        }
        Check.due("one set has it so", e.explain(0), 1);
        for (int i = 0; i < 3; i++) {
            Check.due("there are 9", e.book(0, 0, 2, 0), NONE);
            Check.due("told", e.told(10), 9);
        }
        Check.due("the tenth does not count", e.explain(0), 1);
        Check.due("nor is it refused by an exception", e.status(2), 0);
        Check.due("all lines go", e.forget(), 9);
        Check.due("none is left", e.told(10), 0);
        Check.due("none goes", e.forget(), 0);
        Check.due("both sets have it so", e.explain(0), 2);
        Check.due("the first again", e.book(0, 0, 2, 0), 1);
        Check.due("one goes", e.forget(), 1);
    }

    /** "if .. all of it is so": the ninth line counts as the first does. */
    private static void linesThatAreSo() {
        for (int wrong = 0; wrong < 9; wrong++) {
            SoldEchoes e = Check.valleyOf("valley 2 2;face 1 0 9;");
            for (int line = 0; line < 9; line++) {
                e.book(0, 0, 2, line == wrong ? 0 : 1);
            }
            Check.due("line " + wrong + " is not so", e.explain(0), 0);
        }
        SoldEchoes e = Check.valleyOf("valley 2 2;face 1 0 9;");
        for (int line = 0; line < 9; line++) {
            e.book(0, 0, 2, 1);
        }
        Check.due("all lines are so", e.explain(0), 1);
    }

    /** Times from 1 to 99: none comes at 1 or at 99. */
    private static void timesOfTheBook() {
        for (int time = 1; time <= 99; time++) {
            SoldEchoes e = Check.valleyOf("valley 2 2;face 1 0 9;");
            e.book(0, 0, time, 1);
            Check.due("one comes at " + time, e.explain(0), time == 2 ? 1 : 0);
            e.forget();
            e.book(0, 0, time, 0);
            Check.due("none comes at " + time, e.explain(0), time == 2 ? 0 : 1);
        }
    }

    /** So many, neither fewer nor more: from 0 to 24. */
    private static void manyOfTheBook() {
        SoldEchoes e = Check.valleyOf("valley 3 3;loud 99;face 0 0 9;face 1 0 9;face 2 0 9;face 0 1 9;face 2 1 9;face 0 2 9;"
            + "face 1 2 9;face 2 2 9;");
        for (int many = 0; many <= 24; many++) {
            e.book(1, 1, 2, many);
            Check.due("eight come at 2, not " + many, e.explain(0), many == 8 ? 1 : 0);
            e.forget();
        }
        Check.due("counted, not refused", e.status(2), 0);
    }

    private static void explained(SoldEchoes e, int sets, int first, int inAll, int inNone) {
        int[] due = {sets, first, inAll, inNone};
        for (int what = 0; what < 4; what++) {
            Check.due("explain(" + what + ")", e.explain(what), due[what]);
        }
    }

    private static void explainedWithoutMaybeCells() {
        SoldEchoes e = Check.valleyOf("valley 2 2;face 1 0 9;");
        explained(e, 1, 0, 0, 0);
        e.book(0, 0, 2, 1);
        explained(e, 1, 0, 0, 0);
        e.book(0, 0, 2, 2);
        explained(e, 0, NONE, 0, 0);
    }

    private static void explainedByOneToEight() {
        SoldEchoes e = new SoldEchoes();
        int[][] beside = {{2, 1}, {2, 2}, {1, 2}, {0, 2}, {0, 1}, {0, 0}, {1, 0}, {2, 0}};
        StringBuilder text = new StringBuilder("valley 3 3;");
        for (int n = 1; n <= 8; n++) {
            text.append("maybe ").append(beside[n - 1][0]).append(" ").append(beside[n - 1][1]).append(";");
            Check.tell(e, text.toString());
            explained(e, 1 << n, 0, 0, 0);
            e.book(1, 1, 2, n);
            explained(e, 1, (1 << n) - 1, (1 << n) - 1, 0);
            e.forget();
            e.book(1, 1, 2, 0);
            explained(e, 1, 0, 0, (1 << n) - 1);
            e.forget();
            e.book(1, 1, 2, 1);
            explained(e, n, 1, n == 1 ? 1 : 0, 0);
        }
        e.forget();
        e.book(1, 1, 2, 7);
        explained(e, 8, 127, 0, 0);
    }

    /** "1 the first (NONE), 2 cells in all of them, 3 in none (0 without a set)" */
    private static void explainedByNone() {
        SoldEchoes e = Check.valleyOf("valley 3 3;maybe 0 0;maybe 1 0;");
        e.book(1, 1, 2, 3);
        explained(e, 0, NONE, 0, 0);
        e.forget();
        e.book(1, 1, 2, 2);
        explained(e, 1, 3, 3, 0);
    }

    /** "with FACES (HARD 5) on these, where there is none" */
    private static void facesOnMaybeCells() {
        // By a face of hard 9 strength 7 would do; of hard 5 it takes 8.
        for (int loud = 3; loud <= 9; loud++) {
            SoldEchoes bare = Check.valleyOf("valley 2 2;maybe 1 0;loud " + loud + ";");
            bare.book(0, 0, 2, 1);
            Check.due("hard 5, loud " + loud, bare.explain(0), loud >= 8 ? 1 : 0);
            SoldEchoes hard = Check.valleyOf("valley 2 2;maybe 1 0;face 1 0 9;loud " + loud + ";");
            hard.book(0, 0, 2, 1);
            Check.due("a face of hard 9 stays, loud " + loud, hard.explain(0), loud >= 4 ? 2 : 0);
        }
        SoldEchoes e = Check.valleyOf("valley 2 2;maybe 1 0;maybe 1 0;");
        e.book(0, 0, 2, 1);
        explained(e, 3, 1, 0, 0);
        e.build(1, 0);
        explained(e, 4, 0, 0, 0);
        Check.due("the barn stays", e.cell(1, 0, 0), 5);
    }

    private static void inAllAndInNone() {
        SoldEchoes e = Check.valleyOf("valley 4 2;maybe 1 0;maybe 3 0;maybe 0 1;maybe 3 1;");
        e.book(0, 0, 2, 1);
        // From 0 0, of 1 0, 0 1 and 1 1 one is a face: maybe cell 0 or 2, not both.
        explained(e, 8, 1, 0, 0);
        e.book(1, 0, 2, 0);
        // And none beside 1 0: maybe cell 2, by way 3, is ruled out, and 0 is where it was shouted.
        explained(e, 4, 1, 1, 4);
    }

    private static void asked(SoldEchoes e, int x, int y, int left) {
        int[] due = {x, y, left};
        for (int what = 0; what < 3; what++) {
            Check.due("ask(" + what + ")", e.ask(what), due[what]);
        }
    }

    /** "NONE: no set explains it, or there are no cells" */
    private static void askWithoutCells() {
        asked(new SoldEchoes(), NONE, NONE, NONE);
        SoldEchoes e = Check.valleyOf("valley 2 2;maybe 0 0;");
        Check.tell(e, "");
        asked(e, NONE, NONE, NONE);
        Check.tell(e, "valley 2 2;maybe 0 0;");
        e.book(0, 0, 1, 1);
        asked(e, NONE, NONE, NONE);
        e.forget();
        asked(e, 1, 0, 1);
    }

    private static void askWhereNothingParts() {
        asked(Check.valleyOf("valley 2 2;"), 0, 0, 1);
        asked(Check.valleyOf("valley 2 2;loud 1;maybe 0 0;maybe 1 1;"), 0, 0, 4);
        asked(Check.valleyOf("valley 10 10;loud 1;" + "maybe 9 9;".repeat(8)), 0, 0, 256);
        asked(Check.valleyOf("valley 2 2;maybe 1 0;face 1 0 5;"), 0, 0, 2);
        // Where 24 echoes come, the most there can be, one set is left as elsewhere.
        asked(Check.valleyOf("valley 3 3;loud 99;face 0 0 9;face 1 0 9;face 2 0 9;face 0 1 9;face 2 1 9;face 0 2 9;"
            + "face 1 2 9;face 2 2 9;"), 0, 0, 1);
    }

    /** "of these the first (row by row)" */
    private static void askTheFirst() {
        // Only cells beside the maybe cell tell it, for the shout is weak.
        String weak = "valley 4 4;loud 8;maybe ";
        asked(Check.valleyOf(weak + "0 0;"), 1, 0, 1);
        asked(Check.valleyOf(weak + "3 0;"), 2, 0, 1);
        asked(Check.valleyOf(weak + "0 1;"), 0, 0, 1);
        asked(Check.valleyOf(weak + "3 3;"), 2, 2, 1);
        asked(Check.valleyOf(weak + "0 3;"), 0, 2, 1);
        asked(Check.valleyOf("valley 10 2;loud 8;maybe 9 0;"), 8, 0, 1);
        asked(Check.valleyOf("valley 2 10;loud 8;maybe 0 9;"), 0, 8, 1);
        // Woods where else it could be heard: the last cell alone tells, each time it is asked.
        SoldEchoes last = Check.valleyOf("valley 10 10;loud 8;maybe 9 8;wood 8 7 1;wood 9 7 1;wood 8 8 1;wood 8 9 1;");
        asked(last, 9, 9, 1);
        asked(last, 9, 9, 1);
        asked(Check.valleyOf("valley 4 2;loud 8;face 2 0 9;maybe 3 0;wood 3 0 9;"), 0, 0, 2);
    }

    /** "at the worst fewest are left" */
    private static void askTheWorst() {
        // By how many of three beside it are faces: 1, 3, 3, 1 of eight sets, where all three are beside; else 4 or more.
        SoldEchoes e = Check.valleyOf("valley 3 3;loud 8;maybe 0 0;maybe 0 1;maybe 0 2;");
        asked(e, 1, 1, 3);
        e.book(1, 1, 2, 1);
        // Three sets are left, one face each: beside 0 0 and 1 0 two of three cells, or one.
        asked(e, 0, 0, 2);
        e.book(1, 0, 2, 1);
        asked(e, 0, 0, 1);
        // From 1 1: 12, and 1 or 6 by maybe cell 2, and 0, 1, 1 or 6 by the other two: three sets let 19 come, one all 24.
        Check.tell(e, "valley 4 3;loud 99;face 0 0 9;face 1 0 9;maybe 2 0;face 0 1 9;face 2 1 9;maybe 0 2;face 1 2 9;maybe 2 2;");
        asked(e, 1, 1, 3);
        asked(e, 1, 1, 3);
    }

    /** "the cell from which sets that explain it are parted": by faces far off in each of the eight ways. */
    private static void askByEachWay() {
        int[][] steps = {{1, 0}, {1, 1}, {0, 1}, {-1, 1}, {-1, 0}, {-1, -1}, {0, -1}, {1, -1}};
        int[][] first = {{5, 4}, {5, 5}, {4, 5}, {3, 5}, {0, 4}, {0, 0}, {4, 0}, {8, 0}};
        for (int open = 0; open < 8; open++) {
            StringBuilder text = new StringBuilder("valley 9 9;maybe 4 4;");
            for (int way = 0; way < 8; way++) {
                if (way != open) {
                    text.append("wood ").append(4 + steps[way][0]).append(' ').append(4 + steps[way][1]).append(" 9;");
                }
            }
            SoldEchoes e = Check.valleyOf(text.toString());
            // Woods of 29 let nothing through: only the cells by the open way hear the face.
            e.years(20);
            asked(e, first[open][0], first[open][1], 1);
        }
    }

    private static void askPastOtherCells() {
        // 2 1 is in no way of 0 0: 1 0 is the first that hears it, and one set has no face there, three have.
        SoldEchoes e = Check.valleyOf("valley 3 2;loud 99;maybe 2 1;maybe 2 1;");
        asked(e, 1, 0, 3);
        // Both are beside 0 1: none, one by either, two.
        Check.tell(e, "valley 3 3;loud 8;maybe 1 2;maybe 0 2;");
        asked(e, 0, 1, 2);
        // A maybe cell that has a face parts nothing, and hides the one behind it; from the face itself that one is heard.
        Check.tell(e, "valley 5 2;loud 99;face 2 0 9;maybe 2 0;maybe 3 0;wood 4 0 9;wood 3 1 9;wood 4 1 9;wood 2 1 9;");
        asked(e, 2, 0, 2);
    }

    /** "how many there are; -1: there are 3"; "how many are left; -1: there is none" */
    private static void threeImages() {
        SoldEchoes e = Check.valleyOf("valley 2 2;");
        Check.due("none to go back to", e.restore(), NONE);
        for (int i = 1; i <= 3; i++) {
            Check.due("image " + i, e.image(), i);
            e.years(1);
        }
        for (int i = 0; i < 3; i++) {
            Check.due("there are 3", e.image(), NONE);
            Check.due("sums", e.sums(0), 3);
        }
        Check.due("years stay", e.told(9), 3);
        for (int left = 2; left >= 0; left--) {
            Check.due("left", e.restore(), left);
            Check.due("years of the latest", e.told(9), left);
            Check.due("sums", e.sums(0), left);
        }
        Check.due("there is none", e.restore(), NONE);
        Check.due("there is none, again", e.restore(), NONE);
        Check.due("all stays", e.told(9), 0);
        e.years(9);
        Check.due("one again", e.image(), 1);
        Check.due("back", e.restore(), 0);
        Check.due("no exception was thrown", e.status(0) + e.status(1) + e.status(2), 0);
    }

    /** "An IMAGE of FACES, WOODS, YEARS, the BOOK" */
    private static void imagesKeepTheirParts() {
        SoldEchoes e = Check.valleyOf("valley 2 2;face 0 0 3;wood 1 1 4;maybe 1 0;");
        e.years(2);
        e.book(0, 0, 2, 1);
        e.image();
        e.build(0, 1);
        e.build(1, 0);
        e.fell(1, 1);
        e.years(18);
        e.forget();
        e.book(1, 1, 3, 3);
        e.book(1, 1, 3, 3);
        Check.due("back", e.restore(), 0);
        Check.due("the old face", e.cell(0, 0, 0), 3);
        Check.due("no barn", e.cell(0, 1, 0), 0);
        Check.due("no other barn", e.cell(1, 0, 0), 0);
        Check.due("the wood", e.cell(1, 1, 1), 4);
        Check.due("the years", e.told(9), 2);
        Check.due("the line", e.told(10), 1);
        Check.due("it tells what it told", e.explain(1), 1);
        // A change behind the image does not reach it.
        e.image();
        e.book(0, 0, 9, 9);
        e.restore();
        Check.due("one line", e.told(10), 1);
        Check.due("still so", e.explain(0), 1);
    }

    private static void imagesKeepTheLastCell() {
        SoldEchoes e = Check.valleyOf("valley 10 10;face 9 9 3;wood 9 9 4;");
        Check.due("the last cell's face", e.cell(9, 9, 0), 3);
        Check.due("the last cell's wood", e.cell(9, 9, 1), 4);
        e.image();
        e.fell(9, 9);
        e.restore();
        Check.due("the wood is back", e.cell(9, 9, 1), 4);
        Check.tell(e, "valley 10 10;");
        Check.due("no face", e.cell(9, 9, 0), 0);
        Check.due("no wood", e.cell(9, 9, 1), 0);
        e.image();
        e.build(9, 9);
        e.restore();
        Check.due("no barn", e.cell(9, 9, 0), 0);
    }

    /** "(No IMAGE keeps it.)": the counts of refusals, and the tape, go on. */
    private static void imagesKeepNothingElse() {
        SoldEchoes e = Check.valleyOf("valley 2 2;");
        e.feed(0, 0, 0, 0, 0);
        Check.noCell("refused", () -> e.cell(2, 0, 0));
        e.image();
        Check.noCell("refused", () -> e.cell(0, 2, 0));
        Check.noField("refused", () -> e.field(0, 0));
        Check.noArgument("refused", () -> e.told(11));
        e.feed(0, 0, 0, 0, 0);
        e.restore();
        Check.due("cells", e.status(0), 2);
        Check.due("fields", e.status(1), 1);
        Check.due("arguments", e.status(2), 1);
        Check.due("bytes", e.sums(1), 40);
    }

    private static void statusCountsByReason() {
        SoldEchoes e = Check.valleyOf("valley 2 2;field 0 0 0 0 1;");
        for (int n = 1; n <= 60; n++) {
            Check.noCell("cell", () -> e.gain(2, 0, 0));
            Check.due("cells", e.status(0), n);
            Check.noField("field", () -> e.gain(0, 0, 1));
            Check.due("fields", e.status(1), n);
            Check.noArgument("number", () -> e.worth(0, 10));
            Check.due("numbers", e.status(2), n);
        }
        Check.tell(e, "x");
        Check.tell(e, "valley 2 2;");
        Check.tell(e, "");
        for (int what = 0; what < 3; what++) {
            Check.due("a valley keeps it", e.status(what), 60);
        }
    }

    /** "NONE for others": not refused, not counted. */
    private static void statusOfOthers() {
        SoldEchoes e = new SoldEchoes();
        for (int what : new int[] {-1, 3, 4, LOW, HIGH}) {
            Check.due("status(" + what + ")", e.status(what), NONE);
        }
        for (int what = 0; what < 3; what++) {
            Check.due("status(" + what + ")", e.status(what), 0);
        }
    }

    private static void sumsOfOthers() {
        SoldEchoes e = new SoldEchoes();
        e.image();
        e.feed(1, 2, 3, 4, 5);
        for (int what : new int[] {-1, 2, 3, LOW, HIGH}) {
            Check.due("sums(" + what + ")", e.sums(what), NONE);
        }
        Check.due("images", e.sums(0), 1);
        Check.due("bytes", e.sums(1), 20);
        Check.due("none refused", e.status(2), 0);
    }
}
