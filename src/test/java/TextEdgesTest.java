/** The valley's text on both sides of every bound that the document names, and the place of every fault. */
public final class TextEdgesTest {
    private static final int NONE = -1;
    private static final int MISPLACED = 1;
    private static final int NO_SUCH_NUMBER = 2;
    private static final int TOO_MANY = 3;
    private static final String START = "valley 7 5;";

    public static void main(String[] args) {
        sixHundredBytes();
        sizes();
        cellsOfTheLeastAndTheGreatest();
        valleyFirstAndNoOther();
        clausesOnCells();
        clausesWithoutCells();
        fieldsOnTheirBounds();
        lastCounts();
        louderAndLawWithout();
        sixtyClauses();
        sixtyClausesOfEachKind();
        numbered();
        noClauses();
        digitsAsManyAsStandThere();
        lettersAsManyAsStandThere();
        blanks();
        endsTooEarly();
        everyByte();
        firstFromTheLeft();
        leastOfOnePlace();
        bytesBehindN();
        Check.end("TextEdgesTest");
    }

    private static void good(String text) {
        fault(text, 0, NONE);
    }

    private static void fault(String text, int kind, int place) {
        SoldEchoes e = new SoldEchoes();
        int answer = Check.tell(e, text);
        Check.due("valley of '" + text + "'", answer < 0 ? answer + 10 : 0, kind);
        Check.due("fault of '" + text + "'", e.fault(), place);
    }

    /** "a text of up to 600 bytes" */
    private static void sixHundredBytes() {
        String padded = "valley 3 2;" + " ".repeat(578) + "field 0 0 2";
        Check.due("600 bytes", padded.length(), 600);
        fault(padded, MISPLACED, 600);
        good("valley 3 2;" + " ".repeat(589));
        good("valley 3 2;" + " ".repeat(572) + "field 0 0 2 1 99;");
        good("valley 3 2;" + " ".repeat(583) + "law 1;");
        fault("valley 3 2;" + " ".repeat(588) + "x", MISPLACED, 599);
        fault("valley 3 2;" + " ".repeat(588) + ";", MISPLACED, 599);
        SoldEchoes e = new SoldEchoes();
        Check.due("the last of 600 bytes counts", Check.tell(e, "valley 3 2;" + " ".repeat(572) + "field 0 0 2 1 99;"), 1);
        Check.due("all of the last number", e.field(0, 4), 99);
        Check.tape(e, "valley 2 2;" + " ".repeat(589));
        Check.noArgument("601 bytes", () -> e.valley(601));
        Check.due("600 bytes", e.valley(600), 0);
    }

    /** "valley" W H (2 to 10 each */
    private static void sizes() {
        for (int n = 0; n <= 12; n++) {
            boolean fits = n >= 2 && n <= 10;
            fault("valley " + n + " 2;", fits ? 0 : NO_SUCH_NUMBER, fits ? NONE : 7);
            fault("valley 2 " + n + ";", fits ? 0 : NO_SUCH_NUMBER, fits ? NONE : 9);
        }
        fault("valley 11 11;", NO_SUCH_NUMBER, 7);
        fault("valley 10 11;", NO_SUCH_NUMBER, 10);
    }

    /** "cells X 0 to W less 1, Y 0 to H less 1" */
    private static void cellsOfTheLeastAndTheGreatest() {
        int[][] sizes = {{2, 2}, {10, 10}, {10, 2}, {2, 10}};
        for (int[] size : sizes) {
            int w = size[0];
            int h = size[1];
            SoldEchoes e = Check.valleyOf("valley " + w + " " + h + ";");
            Check.due("safe cells, all of them", e.safe(), w * h);
            Check.due("the first cell", e.cell(0, 0, 0), 0);
            Check.due("the last cell", e.cell(w - 1, h - 1, 0), 0);
            Check.due("the last of the first row", e.build(w - 1, 0), 1);
            Check.due("the first of the last row", e.build(0, h - 1), 1);
            Check.due("the last cell is another one", e.cell(w - 1, h - 1, 0), 0);
            Check.noCell("X of W", () -> e.cell(w, 0, 0));
            Check.noCell("Y of H", () -> e.cell(0, h, 0));
            Check.noCell("X below 0", () -> e.cell(-1, 1, 0));
            Check.noCell("Y below 0", () -> e.cell(1, -1, 0));
        }
    }

    /** "the first CLAUSE, and no other"; "any other CLAUSE first; a valley later" */
    private static void valleyFirstAndNoOther() {
        String[] others = {"face 0 0 1;", "wood 0 0 1;", "snow 0 0 1;", "field 0 0 0 0 1;", "site 0 0 0;", "season 0 1;",
            "maybe 0 0;", "loud 1;", "law 0;"};
        for (String other : others) {
            fault(other, MISPLACED, 0);
            fault("  " + other + START, MISPLACED, 2);
            good(START + other);
            fault(START + other + " valley 7 5;", MISPLACED, START.length() + other.length() + 1);
        }
        fault(START + START, MISPLACED, START.length());
        fault(START + "valley", MISPLACED, START.length());
        fault(START + "valley 1 1;", MISPLACED, START.length());
    }

    /** Number k of a clause: low and high are good, what is beyond them is none such, at its first digit. */
    private static void bounds(String clause, int k, int low, int high) {
        String[] parts = clause.split(" ");
        int place = START.length();
        for (int i = 0; i <= k; i++) {
            place += parts[i].length() + 1;
        }
        good(numbered(parts, k, "" + low));
        good(numbered(parts, k, "" + high));
        good(numbered(parts, k, "000" + high));
        if (low > 0) {
            fault(numbered(parts, k, "" + (low - 1)), NO_SUCH_NUMBER, place);
        }
        fault(numbered(parts, k, "-" + low), MISPLACED, place);
        for (String number : new String[] {"" + (high + 1), "" + high + "0000000000", "4294967296", "4294967297", "18446744073709551617"}) {
            fault(numbered(parts, k, number), NO_SUCH_NUMBER, place);
        }
        fault(numbered(parts, k, "x"), MISPLACED, place);
        fault(numbered(parts, k, ";"), MISPLACED, place);
    }

    private static String numbered(String[] parts, int k, String number) {
        String[] changed = parts.clone();
        changed[k + 1] = number;
        return START + String.join(" ", changed) + ";";
    }

    /** X and Y of every clause that has a cell, and the number behind them. */
    private static void clausesOnCells() {
        for (String clause : new String[] {"face 3 3 5", "wood 3 3 5", "snow 3 3 5", "site 3 3 5", "maybe 3 3"}) {
            bounds(clause, 0, 0, 6);
            bounds(clause, 1, 0, 4);
        }
        bounds("face 3 3 5", 2, 1, 9);
        bounds("wood 3 3 5", 2, 1, 9);
        bounds("snow 3 3 5", 2, 1, 99);
        bounds("site 3 3 5", 2, 0, 99);
    }

    private static void clausesWithoutCells() {
        bounds("season 5 5", 0, 0, 9);
        bounds("season 5 5", 1, 1, 9);
        bounds("loud 5", 0, 1, 99);
        bounds("law 1", 0, 0, 2);
    }

    /** "cells X to A, Y to B, A no less than X, B than Y; price P, 1 to 99" */
    private static void fieldsOnTheirBounds() {
        bounds("field 0 0 6 4 5", 0, 0, 6);
        bounds("field 0 0 6 4 5", 1, 0, 4);
        bounds("field 3 2 6 4 5", 2, 3, 6);
        bounds("field 3 2 6 4 5", 3, 2, 4);
        bounds("field 0 0 6 4 5", 2, 0, 6);
        bounds("field 0 0 6 4 5", 3, 0, 4);
        bounds("field 6 4 6 4 5", 2, 6, 6);
        bounds("field 6 4 6 4 5", 3, 4, 4);
        bounds("field 3 2 6 4 5", 4, 1, 99);
        // A is held against X and B against Y, not the other way round.
        good(START + "field 3 0 3 1 5;");
        good(START + "field 0 3 1 3 5;");
    }

    /** "the last counts": of faces and woods on one cell, of loud, of law. */
    private static void lastCounts() {
        SoldEchoes e = Check.valleyOf("valley 3 2;face 1 1 9;face 2 1 4;face 1 1 2;wood 1 1 3;wood 0 0 8;wood 1 1 7;"
            + "loud 99;loud 1;law 2;law 1;");
        Check.due("the last face", e.cell(1, 1, 0), 2);
        Check.due("another cell's face", e.cell(2, 1, 0), 4);
        Check.due("the last wood", e.cell(1, 1, 1), 7);
        Check.due("another cell's wood", e.cell(0, 0, 1), 8);
        Check.due("the last loud", e.told(7), 1);
        Check.due("the last law", e.told(8), 1);
        Check.tell(e, "valley 3 2;loud 1;loud 99;law 1;law 2;law 0;");
        Check.due("the last loud, 99", e.told(7), 99);
        Check.due("the last law, 0", e.told(8), 0);
    }

    /** "20 without", "0 without": not those of the valley before. */
    private static void louderAndLawWithout() {
        SoldEchoes e = Check.valleyOf("valley 3 2;loud 77;law 2;");
        Check.due("loud", e.told(7), 77);
        Check.due("law", e.told(8), 2);
        Check.tell(e, "valley 3 2;");
        Check.due("loud without", e.told(7), 20);
        Check.due("law without", e.told(8), 0);
        Check.tell(e, "valley 3 2;loud 77;law 2;");
        Check.tell(e, "valley 3 2;loud 5;law 1;law 3;");
        Check.due("loud behind a fault", e.told(7), 77);
        Check.due("law behind a fault", e.told(8), 2);
    }

    /** "at most 60", the valley among them; the next one is too many at its word. */
    private static void sixtyClauses() {
        String sixty = "valley 2 2;" + "law 0;".repeat(59);
        good(sixty);
        good(sixty + "   ");
        fault(sixty + "law 0;", TOO_MANY, sixty.length());
        fault(sixty + "  law 0;", TOO_MANY, sixty.length() + 2);
        fault(sixty + "law", TOO_MANY, sixty.length());
        fault(sixty + "law 3;", TOO_MANY, sixty.length());
        fault(sixty + "law;", TOO_MANY, sixty.length());
        String fiftyNine = "valley 2 2;" + "law 0;".repeat(58);
        good(fiftyNine);
        fault(fiftyNine + "law 3;", NO_SUCH_NUMBER, fiftyNine.length() + 4);
        fault(fiftyNine + "law", MISPLACED, fiftyNine.length() + 3);
    }

    private static void sixtyClausesOfEachKind() {
        String[] kinds = {"face 0 0 1;", "wood 0 0 1;", "snow 0 0 1;", "field 0 0 0 0 1;", "site 0 0 0;", "season 0 1;",
            "maybe 0 0;", "loud 1;", "law 0;"};
        String fiftyNine = "valley 2 2;" + "law 0;".repeat(58);
        for (String kind : kinds) {
            good(fiftyNine + kind);
            String sixty = fiftyNine + kind;
            fault(sixty + kind, TOO_MANY, sixty.length());
        }
    }

    /** "SNOWS, numbered from 0 on, 8 at most", "FIELDS likewise, 5", SITES 4, SEASONS 4, maybe 8. */
    private static void numbered() {
        many("snow 0 0 1;", 8, 5);
        many("field 0 0 0 0 1;", 5, 2);
        many("site 0 0 0;", 4, 3);
        many("season 0 1;", 4, 4);
        many("maybe 0 0;", 8, 6);
    }

    private static void many(String clause, int most, int what) {
        SoldEchoes e = new SoldEchoes();
        for (int n = 0; n <= most; n++) {
            int answer = Check.tell(e, "valley 2 2;" + clause.repeat(n));
            Check.due(n + " times " + clause, answer, what == 2 ? n : 0);
            Check.due("told of " + n + " times " + clause, e.told(what), n);
        }
        String full = "valley 2 2;" + clause.repeat(most);
        Check.due("one more " + clause, Check.tell(e, full + clause), TOO_MANY - 10);
        Check.due("at its word", e.fault(), full.length());
        Check.due("all stays", e.told(what), most);
        fault(full + " law 0; " + clause, TOO_MANY, full.length() + 8);
        String others = "snow 0 0 1;field 0 0 0 0 1;site 0 0 0;season 0 1;maybe 0 0;face 0 0 1;wood 0 0 1;loud 1;law 0;";
        good(full + others.replace(clause, ""));
        // It is too many at its word, whatever would be wrong behind it.
        String word = clause.substring(0, clause.indexOf(' '));
        fault(full + word, TOO_MANY, full.length());
        fault(full + word + " x", TOO_MANY, full.length());
        fault(full + word + " 99 99 99;", TOO_MANY, full.length());
    }

    /** "A VALLEY without CLAUSES has no cells." */
    private static void noClauses() {
        for (String text : new String[] {"", " ", "          ", " ".repeat(600)}) {
            SoldEchoes e = Check.valleyOf("valley 3 3;field 0 0 0 0 1;site 0 0 1;season 0 1;snow 0 0 1;maybe 0 0;loud 5;law 1;");
            Check.due("a text without clauses", Check.tell(e, text), 0);
            Check.due("no fault", e.fault(), NONE);
            int[] due = {0, 0, 0, 0, 0, 0, 0, 20, 0, 0, 0};
            for (int what = 0; what < due.length; what++) {
                Check.due("told(" + what + ") without clauses", e.told(what), due[what]);
            }
            Check.noCell("no cells", () -> e.cell(0, 0, 0));
            Check.noField("no fields", () -> e.field(0, 0));
        }
    }

    /** "Numbers: digits, as many as stand there" */
    private static void digitsAsManyAsStandThere() {
        good("valley 02 000000000000000000000000000000000010;");
        fault("valley 22;", NO_SUCH_NUMBER, 7);
        fault("valley 2 22;", NO_SUCH_NUMBER, 9);
        fault("valley 0 2;", NO_SUCH_NUMBER, 7);
        fault("valley 00 2;", NO_SUCH_NUMBER, 7);
        fault("valley 20 2;", NO_SUCH_NUMBER, 7);
        fault("valley 2 " + "9".repeat(590) + ";", NO_SUCH_NUMBER, 9);
        good("valley 2 " + "0".repeat(589) + "2;");
        SoldEchoes e = Check.valleyOf("valley 0010 03;loud 0099;");
        Check.due("W of 0010", e.told(0), 10);
        Check.due("H of 03", e.told(1), 3);
        Check.due("S of 0099", e.told(7), 99);
        // Numbers that would wrap around to one that may stand.
        fault("valley 2 4294967298;", NO_SUCH_NUMBER, 9);
        fault("valley 2 18446744073709551618;", NO_SUCH_NUMBER, 9);
        fault("valley 2 1002;", NO_SUCH_NUMBER, 9);
        fault("valley 2 258;", NO_SUCH_NUMBER, 9);
    }

    /** "WORDS: small letters, as many as stand there" */
    private static void lettersAsManyAsStandThere() {
        String[] words = {"face", "wood", "snow", "field", "site", "season", "maybe", "loud", "law"};
        for (String word : words) {
            int place = START.length();
            fault(START + word.substring(1) + " 1 1 1 1 1;", MISPLACED, place);
            fault(START + word.substring(0, word.length() - 1) + " 1 1 1 1 1;", MISPLACED, place);
            fault(START + word + "z 1 1 1 1 1;", MISPLACED, place);
            fault(START + word + "a 1 1 1 1 1;", MISPLACED, place);
            fault(START + "a" + word + " 1 1 1 1 1;", MISPLACED, place);
            fault(START + word + word + " 1 1 1 1 1;", MISPLACED, place);
            fault(START + word.toUpperCase() + " 1 1 1 1 1;", MISPLACED, place);
            fault(START + word.substring(0, 1).toUpperCase() + word.substring(1) + " 1 1 1 1 1;", MISPLACED, place);
            fault(START + word.substring(0, 1) + " " + word.substring(1) + " 1 1 1 1 1;", MISPLACED, place);
            for (int i = 0; i < word.length(); i++) {
                fault(START + word.substring(0, i) + "x" + word.substring(i + 1) + " 1 1 1 1 1;", MISPLACED, place);
            }
        }
        fault(START + "z".repeat(580), MISPLACED, START.length());
        fault("galley 2 2;", MISPLACED, 0);
        fault("valle 2 2;", MISPLACED, 0);
        fault("valleyy 2 2;", MISPLACED, 0);
        fault("Valley 2 2;", MISPLACED, 0);
        fault("valley 2 2;face 0 x 1;", MISPLACED, 18);
        fault("valley 2 2;face 0 face 0 0 1;", MISPLACED, 18);
    }

    /** "blanks (32) may stand ahead of all these, and at the end" */
    private static void blanks() {
        good("valley2 2;");
        good("valley2 2;face0 0 1;season0 1;loud5;law2;");
        good("   valley   2   2   ;   face   0   0   1   ;   ");
        good("valley 2 2; ");
        good("valley 2 2 ;law 0 ;");
        good("valley 2 2;law0;law 1;  law 2  ;  ");
        for (char other : new char[] {9, 10, 11, 12, 13, 31, 33, 0, 127, 128, 160, 255}) {
            fault(other + "valley 2 2;", MISPLACED, 0);
            fault("valley" + other + "2 2;", MISPLACED, 6);
            fault("valley 2" + other + "2;", MISPLACED, 8);
            fault("valley 2 2" + other + ";", MISPLACED, 10);
            fault("valley 2 2;" + other, MISPLACED, 11);
            fault("valley 2 2; " + other + " ", MISPLACED, 12);
        }
    }

    /** "at the length, if the text ends too early": a text cut behind each of its bytes. */
    private static void endsTooEarly() {
        String text = "valley 2 2;law 0; face 1 1 9 ;";
        int[] places = {
            NONE, 0, 0, 0, 0, 0, 6, 7, 8, 9, 10,
            NONE, 11, 11, 14, 15, 16,
            NONE, NONE, 18, 18, 18, 22, 23, 24, 25, 26, 27, 28, 29, NONE};
        Check.due("a place for each cut", places.length, text.length() + 1);
        for (int n = 0; n < places.length; n++) {
            fault(text.substring(0, n), places[n] == NONE ? 0 : MISPLACED, places[n]);
        }
        fault("valley 2 2;field 0 0 1 1", MISPLACED, 24);
        fault("valley 2 2;season 0", MISPLACED, 19);
        fault("valley 2 2;maybe 0", MISPLACED, 18);
        fault("valley 2 2;loud", MISPLACED, 15);
        fault("valley 2 2;loud   ", MISPLACED, 18);
    }

    /** Every byte where a clause, a number, a letter and an end would stand. */
    private static void everyByte() {
        for (int b = 0; b < 256; b++) {
            char c = (char) b;
            boolean digit = c >= '0' && c <= '9';
            String atClause = "valley 2 2;" + c;
            fault(atClause, c == ' ' ? 0 : MISPLACED, c == ' ' ? NONE : 11);
            String inWord = "val" + c + "ey 2 2;";
            fault(inWord, c == 'l' ? 0 : MISPLACED, c == 'l' ? NONE : 0);
            String atNumber = "valley " + c + ";";
            boolean fits = c >= '2' && c <= '9';
            fault(atNumber, digit && !fits ? NO_SUCH_NUMBER : MISPLACED, fits || c == ' ' ? 8 : 7);
            String atEnd = "valley 2 2" + c + ";";
            if (digit) {
                fault(atEnd, NO_SUCH_NUMBER, 9);
            } else if (c == ' ') {
                good(atEnd);
            } else {
                fault(atEnd, MISPLACED, c == ';' ? 11 : 10);
            }
        }
    }

    /** "FAULTS, the first from the left" */
    private static void firstFromTheLeft() {
        fault("valley 1 x", NO_SUCH_NUMBER, 7);
        fault("valley x 1;", MISPLACED, 7);
        fault("valley 2 2;face 2 2 0", NO_SUCH_NUMBER, 16);
        fault("valley 2 2;face 1 2 0", NO_SUCH_NUMBER, 18);
        fault("valley 2 2;face 1 1 0", NO_SUCH_NUMBER, 20);
        fault("valley 2 2;face 1 1 1", MISPLACED, 21);
        String sites = "valley 2 2;" + "site 0 0 0;".repeat(4);
        fault(sites + "law 3;site 0 0 0;", NO_SUCH_NUMBER, sites.length() + 4);
        fault(sites + "site 0 0 0;law 3;", TOO_MANY, sites.length());
        fault(sites + "lav 3;site 0 0 0;", MISPLACED, sites.length());
        fault(sites + "site 0 0 0;lav 3;", TOO_MANY, sites.length());
        fault(sites + "site 9 9 999", TOO_MANY, sites.length());
        fault("valley 2 2;field 1 1 0 0 0", NO_SUCH_NUMBER, 21);
        fault("valley 2 2;field 1 1 1 0 0", NO_SUCH_NUMBER, 23);
        fault("valley 2 2;field 1 1 1 1 0", NO_SUCH_NUMBER, 25);
        fault("valley 2 2;field 1 1 1 1 1", MISPLACED, 26);
    }

    /** "of one the least": a 61st clause that can't stand there is fault 1, not 3. */
    private static void leastOfOnePlace() {
        String sixty = "valley 2 2;" + "law 0;".repeat(59);
        for (String wrong : new String[] {"valley 2 2;", "lav 0;", ";", "7;", "Law 0;", "~"}) {
            fault(sixty + wrong, MISPLACED, sixty.length());
            fault(sixty + " " + wrong, MISPLACED, sixty.length() + 1);
        }
        String snows = "valley 2 2;" + "snow 0 0 1;".repeat(8);
        fault(snows + "valley 2 2;", MISPLACED, snows.length());
        fault(snows + "snows 0 0 1;", MISPLACED, snows.length());
    }

    /** The first n bytes are the text, whatever stands behind them; its length is n. */
    private static void bytesBehindN() {
        SoldEchoes e = new SoldEchoes();
        String text = "valley 2 10;law 2;xx";
        int[] answers = {0, -9, -9, -9, -9, -9, -9, -9, -9, -9, -8, -9, 0, -9, -9, -9, -9, -9, 0, -9, -9};
        int[] places = {NONE, 0, 0, 0, 0, 0, 6, 7, 8, 9, 9, 11, NONE, 12, 12, 15, 16, 17, NONE, 18, 18};
        for (int n = 0; n <= text.length(); n++) {
            Check.tape(e, text);
            Check.due("valley(" + n + ")", e.valley(n), answers[n]);
            Check.due("fault behind valley(" + n + ")", e.fault(), places[n]);
            Check.due("the tape behind valley(" + n + ")", e.sums(1), 0);
        }
    }
}
