/** Each promise by answers reckoned by hand: ordinary inputs, edges, wrong inputs. */
public final class PromisesTest {
    private static final int LOW = Integer.MIN_VALUE;
    private static final int HIGH = Integer.MAX_VALUE;
    // From 1 0, by ways 0 and 4: at time 2 strength 5 each, at time 4 strength 2 each.
    private static final String PAIR = "valley 3 2;face 0 0 9;face 2 0 9;loud 8;";

    public static void main(String[] args) {
        newObject();
        feed();
        valley();
        faults();
        tooMany();
        told();
        cellBuildFell();
        years();
        echoes();
        echo();
        count();
        field();
        mostLeastMean();
        worth();
        gain();
        building();
        rests();
        fairAndTrade();
        unlike();
        heard();
        loudest();
        compose();
        bookAndForget();
        explain();
        ask();
        snows();
        safe();
        hush();
        deaf();
        images();
        status();
        sums();
        orderOfRefusals();
        Check.end("PromisesTest");
    }

    private static void newObject() {
        SoldEchoes e = new SoldEchoes();
        int[] due = {0, 0, 0, 0, 0, 0, 0, 20, 0, 0, 0};
        for (int what = 0; what < due.length; what++) {
            Check.due("new: told(" + what + ")", e.told(what), due[what]);
        }
        Check.due("new: fault", e.fault(), -1);
        Check.due("new: sums(0)", e.sums(0), 0);
        Check.due("new: sums(1)", e.sums(1), 0);
        Check.due("new: restore", e.restore(), -1);
        Check.due("new: safe", e.safe(), 0);
        Check.due("new: rests(0)", e.rests(0), 1);
        Check.due("new: rests(1)", e.rests(1), 0);
        Check.due("new: ask(2)", e.ask(2), -1);
        Check.noCell("new: cell", () -> e.cell(0, 0, 0));
        Check.noField("new: field", () -> e.field(0, 0));
    }

    private static void feed() {
        SoldEchoes e = new SoldEchoes();
        for (int i = 1; i <= 30; i++) {
            Check.due("feed", e.feed(0x76616C6C, 0x65792032, 0x20333B20, 0x20202020, 0x20202020), 20 * i);
        }
        Check.due("feed beyond 600", e.feed(0, 0, 0, 0, 0), -1);
        Check.due("sums(1) after it", e.sums(1), 600);
        Check.due("the first bytes, the highest first", e.valley(11), 0);
        Check.due("W", e.told(0), 2);
        Check.due("H", e.told(1), 3);
        Check.due("feed an empty tape", e.feed(0x20202020, 0x20FF2020, -1, -1, -1), 20);
        Check.due("a byte above 127 can't stand there", e.valley(20), -9);
        Check.due("its place", e.fault(), 5);
    }

    private static void valley() {
        SoldEchoes e = Check.valleyOf("valley 3 2;field 0 0 1 1 7;field 1 1 1 1 7;");
        Check.due("two fields", e.told(2), 2);
        e.build(0, 0);
        e.years(3);
        e.book(0, 0, 1, 0);
        e.image();
        Check.due("a fault", Check.tell(e, "valley 9 9;face 9 0 1;"), -8);
        Check.due("W stays", e.told(0), 3);
        Check.due("the barn stays", e.cell(0, 0, 0), 5);
        Check.due("years stay", e.told(9), 3);
        Check.due("the book stays", e.told(10), 1);
        Check.due("the image stays", e.sums(0), 1);
        Check.due("the tape is empty", e.sums(1), 0);
        Check.tape(e, "valley 3 2;");
        Check.noArgument("valley(21)", () -> e.valley(21));
        Check.noArgument("valley(-1)", () -> e.valley(-1));
        Check.noArgument("valley(LOW)", () -> e.valley(LOW));
        Check.due("the tape stays", e.sums(1), 20);
        Check.due("the place of the latest fault stays", e.fault(), 16);
        Check.due("a valley without fields", e.valley(11), 0);
        Check.due("no place", e.fault(), -1);
        Check.due("no barn", e.cell(0, 0, 0), 0);
        Check.due("no years", e.told(9), 0);
        Check.due("no book", e.told(10), 0);
        Check.due("no images", e.sums(0), 0);
        Check.due("the whole tape is empty", e.sums(1), 0);
        Check.tell(e, "valley 2 2;loud 9;law 2;");
        Check.due("the last valley's", Check.tell(e, "  "), 0);
        Check.due("no cells without clauses", e.told(0) + e.told(1), 0);
        Check.due("loud is 20 without", e.told(7), 20);
        Check.due("law is 0 without", e.told(8), 0);
    }

    private static void fault(String text, int kind, int place) {
        SoldEchoes e = new SoldEchoes();
        int answer = Check.tell(e, text);
        Check.due("valley of '" + text + "'", answer < 0 ? answer + 10 : 0, kind);
        Check.due("fault of '" + text + "'", e.fault(), place);
    }

    private static void faults() {
        fault("", 0, -1);
        fault("   ", 0, -1);
        fault(";", 1, 0);
        fault("  ;", 1, 2);
        fault("7", 1, 0);
        fault("face 0 0 1;", 1, 0);
        fault("vale 2 2;", 1, 0);
        fault("valleys 2 2;", 1, 0);
        fault("valleyz 2 2;", 1, 0);
        fault("avalley 2 2;", 1, 0);
        fault("{valley 2 2;", 1, 0);
        fault("valley 2 2;`law 0;", 1, 11);
        fault("valley /2 2;", 1, 7);
        fault("valley 2: 2;", 1, 8);
        fault("val", 1, 0);
        fault("valley", 1, 6);
        fault("valley  ", 1, 8);
        fault("valley 2 2", 1, 10);
        fault("valley 2 2  ", 1, 12);
        fault("valley2 2;", 0, -1);
        fault("valley2  2  ;  law2;", 0, -1);
        fault("valley 002 0000000000000000010;", 0, -1);
        fault("valley 4294967298 2;", 2, 7);
        fault("valley 99999999999999999999999 2;", 2, 7);
        fault("valley 1 x", 2, 7);
        fault("valley 11 2;", 2, 7);
        fault("valley 2 1;", 2, 9);
        fault("valley 2 11;", 2, 9);
        fault("valley 2;", 1, 8);
        fault("valley 2 2 2;", 1, 11);
        fault("valley 2\t2;", 1, 8);
        fault("valley 2 2;;", 1, 11);
        fault("valley 2 2;Face 0 0 1;", 1, 11);
        fault("valley 2 2;valley 2 2;", 1, 11);
        fault("valley 2 2;fac", 1, 11);
        fault("valley 2 2;face", 1, 15);
        fault("valley 2 2;face -1 0 1;", 1, 16);
        fault("valley 2 2;face 2 0 1;", 2, 16);
        fault("valley 2 2;face 0 2 1;", 2, 18);
        fault("valley 2 2;face 0 0 0;", 2, 20);
        fault("valley 2 2;face 0 0 10;", 2, 20);
        fault("valley 2 2;face 0 0 9 law 0;", 1, 22);
        fault("valley 2 2;wood 1 1 9;", 0, -1);
        fault("valley 2 2;wood 1 1 10;", 2, 20);
        fault("valley 2 2;wood 1 1 0;", 2, 20);
        fault("valley 2 2;snow 1 1 99;", 0, -1);
        fault("valley 2 2;snow 1 1 100;", 2, 20);
        fault("valley 2 2;snow 1 1 0;", 2, 20);
        fault("valley 2 2;field 0 0 1 1 99;", 0, -1);
        fault("valley 2 2;field 1 0 0 0 5;", 2, 21);
        fault("valley 2 2;field 0 1 0 0 5;", 2, 23);
        fault("valley 2 2;field 0 0 2 0 5;", 2, 21);
        fault("valley 2 2;field 0 0 0 2 5;", 2, 23);
        fault("valley 2 2;field 0 0 0 0 0;", 2, 25);
        fault("valley 2 2;field 0 0 0 0 100;", 2, 25);
        fault("valley 2 2;site 0 0 0;", 0, -1);
        fault("valley 2 2;site 0 0 99;", 0, -1);
        fault("valley 2 2;site 0 0 100;", 2, 20);
        fault("valley 2 2;season 9 9;", 0, -1);
        fault("valley 2 2;season 10 1;", 2, 18);
        fault("valley 2 2;season 0 0;", 2, 20);
        fault("valley 2 2;season 0 10;", 2, 20);
        fault("valley 2 2;maybe 2 0;", 2, 17);
        fault("valley 2 2;maybe 0 2;", 2, 19);
        fault("valley 2 2;loud 99;", 0, -1);
        fault("valley 2 2;loud 0;", 2, 16);
        fault("valley 2 2;loud 100;", 2, 16);
        fault("valley 2 2;law 3;", 2, 15);
        fault("valley 2 3;face 2 0 1;", 2, 16);
        fault("valley 3 2;face 2 0 1;", 0, -1);
    }

    /** As many as may stand are no fault; one more is, at its word, whatever follows. */
    private static void limit(String clause, int most) {
        String full = "valley 2 2;" + clause.repeat(most);
        fault(full, 0, -1);
        fault(full + clause, 3, full.length());
        fault(full + " " + clause.replaceAll("[ 0-9;]", "") + " 77 77 77;", 3, full.length() + 1);
    }

    private static void tooMany() {
        limit("snow 0 0 1;", 8);
        limit("field 0 0 0 0 1;", 5);
        limit("site 0 0 1;", 4);
        limit("season 0 1;", 4);
        limit("maybe 0 0;", 8);
        limit("law 0;", 59);
        String full = "valley 2 2;" + "law 0;".repeat(59);
        fault(full + "  ", 0, -1);
        fault(full + "lav 0;", 1, full.length());
        fault(full + "valley 2 2;", 1, full.length());
        fault(full + ";", 1, full.length());
    }

    private static void told() {
        SoldEchoes e = Check.valleyOf("valley 4 3;field 0 0 0 0 1;field 0 0 0 0 2;site 1 1 1;season 1 1;season 2 2;season 3 3;"
            + "snow 0 0 1;snow 0 0 2;snow 0 0 3;snow 0 0 4;maybe 0 0;maybe 0 0;maybe 0 0;maybe 0 0;maybe 0 0;"
            + "loud 5;loud 31;law 2;law 1;");
        e.years(6);
        e.book(0, 0, 1, 0);
        e.book(0, 0, 1, 0);
        int[] due = {4, 3, 2, 1, 3, 4, 5, 31, 1, 6, 2};
        for (int what = 0; what < due.length; what++) {
            Check.due("told(" + what + ")", e.told(what), due[what]);
        }
        Check.noArgument("told(-1)", () -> e.told(-1));
        Check.noArgument("told(11)", () -> e.told(11));
        Check.noArgument("told(HIGH)", () -> e.told(HIGH));
    }

    private static void cellBuildFell() {
        SoldEchoes e = Check.valleyOf("valley 4 3;face 3 2 4;face 3 2 7;wood 3 2 1;wood 3 2 6;wood 1 0 2;");
        Check.due("the last face counts", e.cell(3, 2, 0), 7);
        Check.due("the last wood counts", e.cell(3, 2, 1), 6);
        Check.due("no face", e.cell(1, 0, 0), 0);
        Check.due("no wood", e.cell(0, 1, 1), 0);
        e.years(5);
        Check.due("a wood without years", e.cell(1, 0, 1), 2);
        Check.due("build", e.build(1, 0), 1);
        Check.due("a barn is hard 5", e.cell(1, 0, 0), 5);
        Check.due("its wood stays", e.cell(1, 0, 1), 2);
        Check.due("build on a barn", e.build(1, 0), 0);
        Check.due("build on a face", e.build(3, 2), 0);
        Check.due("the face stays", e.cell(3, 2, 0), 7);
        Check.due("fell, without years", e.fell(3, 2), 6);
        Check.due("felled", e.cell(3, 2, 1), 0);
        Check.due("fell again", e.fell(3, 2), 0);
        Check.due("the face stays", e.cell(3, 2, 0), 7);
        int[][] outside = {{-1, 0}, {0, -1}, {4, 0}, {0, 3}, {LOW, HIGH}, {HIGH, HIGH}, {9, 9}};
        for (int[] p : outside) {
            Check.noCell("cell outside", () -> e.cell(p[0], p[1], 0));
            Check.noCell("build outside", () -> e.build(p[0], p[1]));
            Check.noCell("fell outside", () -> e.fell(p[0], p[1]));
        }
        Check.noArgument("cell what 2", () -> e.cell(0, 0, 2));
        Check.noArgument("cell what -1", () -> e.cell(0, 0, -1));
        Check.noCell("no such cell is ahead", () -> e.cell(4, 0, 2));
    }

    private static void years() {
        SoldEchoes e = Check.valleyOf("valley 4 2;face 3 0 5;wood 1 0 2;loud 40;");
        Check.due("years(0)", e.years(0), 0);
        // 3 steps, 5 by the face, 3 steps, and twice the wood.
        Check.due("strength now", e.echo(0, 0, 0, 0, 1), 40 - 11 - 4);
        Check.due("years(3)", e.years(3), 3);
        Check.due("strength in 3 years", e.echo(0, 0, 0, 0, 1), 40 - 11 - 10);
        Check.due("years(16)", e.years(16), 19);
        Check.due("20 at most", e.years(20), 20);
        Check.due("and no more", e.years(1), 20);
        Check.noArgument("years(-1)", () -> e.years(-1));
        Check.noArgument("years(21)", () -> e.years(21));
        Check.noArgument("years(HIGH)", () -> e.years(HIGH));
        Check.due("refused years are none", e.told(9), 20);
        e.fell(1, 0);
        Check.due("a felled wood has no years", e.echo(0, 0, 0, 0, 1), 40 - 11);
    }

    private static void echoes() {
        SoldEchoes e = Check.valleyOf("valley 6 3;face 5 1 8;loud 12;wood 2 1 2;");
        Check.due("gone on the way", e.echoes(1, 1, 0), 0);
        Check.due("one", e.echoes(3, 1, 0), 1);
        Check.due("one in fog 1", e.echoes(3, 1, 1), 1);
        Check.due("none in fog 2", e.echoes(3, 1, 2), 0);
        Check.due("a face on the cell itself does nothing", e.echoes(5, 1, 0), 0);
        Check.due("by way 1", e.echoes(4, 0, 0), 1);
        Check.due("by way 7", e.echoes(4, 2, 0), 1);
        Check.noCell("echoes outside", () -> e.echoes(6, 0, 0));
        Check.noArgument("fog -1", () -> e.echoes(0, 0, -1));
        Check.noArgument("fog 10", () -> e.echoes(0, 0, 10));
        Check.noCell("no such cell is ahead of fog", () -> e.echoes(-1, 0, 10));
        SoldEchoes all = Check.valleyOf("valley 3 3;loud 99;face 0 0 9;face 1 0 9;face 2 0 9;face 0 1 9;face 2 1 9;face 0 2 9;"
            + "face 1 2 9;face 2 2 9;");
        Check.due("three by each of eight ways", all.echoes(1, 1, 0), 24);
        Check.due("the same in fog 9", all.echoes(1, 1, 9), 24);
    }

    private static void echo(SoldEchoes e, int x, int y, int fog, int i, int[] due) {
        for (int what = 0; what < 4; what++) {
            Check.due("echo(" + x + ", " + y + ", " + fog + ", " + i + ", " + what + ")", e.echo(x, y, fog, i, what), due[what]);
        }
    }

    private static void echo() {
        SoldEchoes e = Check.valleyOf("valley 6 3;face 5 1 8;loud 12;wood 2 1 2;");
        echo(e, 3, 1, 0, 0, new int[] {4, 6, 0, 1});
        echo(e, 3, 1, 1, 0, new int[] {4, 2, 0, 1});
        echo(e, 2, 1, 0, 0, new int[] {6, 2, 0, 1});
        echo(e, 4, 1, 0, 0, new int[] {2, 8, 0, 1});
        echo(e, 4, 0, 0, 0, new int[] {2, 8, 1, 1});
        echo(e, 4, 2, 0, 0, new int[] {2, 8, 7, 1});
        echo(e, 4, 2, 0, 1, new int[] {-1, -1, -1, -1});
        echo(e, 4, 2, 0, -1, new int[] {-1, -1, -1, -1});
        echo(e, 4, 2, 0, HIGH, new int[] {-1, -1, -1, -1});
        Check.noArgument("what 4", () -> e.echo(4, 2, 0, 0, 4));
        Check.noArgument("what -1, of no echo too", () -> e.echo(4, 2, 0, 9, -1));
        Check.noArgument("fog 10", () -> e.echo(4, 2, 10, 0, 0));
        Check.noCell("outside", () -> e.echo(4, 3, 10, 0, 0));
        SoldEchoes pair = Check.valleyOf("valley 4 2;face 0 0 9;face 3 0 8;loud 99;");
        // Way 0 meets 3 0 first, 2 cells off; way 4 meets 0 0, next to it.
        echo(pair, 1, 0, 0, 0, new int[] {2, 96, 4, 1});
        echo(pair, 1, 0, 0, 1, new int[] {4, 93, 0, 1});
        echo(pair, 1, 0, 0, 2, new int[] {6, 90, 0, 2});
        echo(pair, 1, 0, 0, 3, new int[] {6, 90, 4, 2});
        echo(pair, 1, 0, 0, 4, new int[] {8, 87, 4, 3});
        echo(pair, 1, 0, 0, 5, new int[] {10, 84, 0, 3});
        Check.due("behind the third it is gone", pair.echoes(1, 0, 0), 6);
        oneWay();
    }

    /** One face on each side in turn, so that every way is gone once. */
    private static void oneWay() {
        int[][] faces = {{2, 1}, {2, 2}, {1, 2}, {0, 2}, {0, 1}, {0, 0}, {1, 0}, {2, 0}};
        for (int way = 0; way < 8; way++) {
            SoldEchoes e = Check.valleyOf("valley 3 3;face " + faces[way][0] + " " + faces[way][1] + " 1;loud 12;");
            Check.due("one echo by way " + way, e.echoes(1, 1, 0), 1);
            echo(e, 1, 1, 0, 0, new int[] {2, 1, way, 1});
            Check.tell(e, "valley 3 3;face " + faces[way][0] + " " + faces[way][1] + " 1;loud 11;");
            Check.due("one less is gone, way " + way, e.echoes(1, 1, 0), 0);
        }
    }

    private static void count() {
        SoldEchoes e = Check.valleyOf(PAIR);
        Check.due("how many", e.count(1, 0, 0, 0), 4);
        Check.due("unlike times", e.count(1, 0, 0, 1), 2);
        Check.due("10 together is strong", e.count(1, 0, 0, 2), 1);
        Check.due("how many in fog", e.count(1, 0, 1, 0), 2);
        Check.due("none strong in fog", e.count(1, 0, 1, 2), 0);
        SoldEchoes weak = Check.valleyOf(PAIR + "loud 7;");
        Check.due("8 together is not strong", weak.count(1, 0, 0, 2), 0);
        Check.due("weak ones count", weak.count(1, 0, 0, 0), 4);
        Check.noCell("outside", () -> e.count(3, 0, 0, 0));
        Check.noArgument("law 3", () -> e.count(0, 0, 0, 3));
        Check.noArgument("law -1", () -> e.count(0, 0, 0, -1));
        Check.noArgument("fog 10", () -> e.count(0, 0, 10, 0));
    }

    private static void field() {
        SoldEchoes e = Check.valleyOf("valley 9 8;field 1 2 3 4 55;field 8 7 8 7 1;");
        int[] due = {1, 2, 3, 4, 55};
        int[] dueOfLast = {8, 7, 8, 7, 1};
        for (int what = 0; what < 5; what++) {
            Check.due("field(0, " + what + ")", e.field(0, what), due[what]);
            Check.due("field(1, " + what + ")", e.field(1, what), dueOfLast[what]);
        }
        Check.noField("field(2)", () -> e.field(2, 0));
        Check.noField("field(-1)", () -> e.field(-1, 0));
        Check.noField("field(LOW)", () -> e.field(LOW, 9));
        Check.noArgument("what 5", () -> e.field(0, 5));
        Check.noArgument("what -1", () -> e.field(0, -1));
    }

    private static void three(String call, int[] got, int... due) {
        for (int i = 0; i < due.length; i++) {
            Check.due(call + ", what " + i, got[i], due[i]);
        }
    }

    private static int[] most(SoldEchoes e, int field, int fog, int law) {
        return new int[] {e.most(field, fog, law, 0), e.most(field, fog, law, 1), e.most(field, fog, law, 2)};
    }

    private static int[] least(SoldEchoes e, int field, int fog, int law) {
        return new int[] {e.least(field, fog, law, 0), e.least(field, fog, law, 1), e.least(field, fog, law, 2)};
    }

    private static int[] mean(SoldEchoes e, int field, int fog, int law) {
        return new int[] {e.mean(field, fog, law, 0), e.mean(field, fog, law, 1)};
    }

    private static void mostLeastMean() {
        // Counts by law 0: 1 4 1, 1 2 1; by law 1: 1 2 1, 1 1 1; by law 2: 0 1 0, 0 1 0.
        SoldEchoes e = Check.valleyOf(PAIR + "field 0 0 2 1 3;field 0 1 2 1 2;");
        three("most by law 0", most(e, 0, 0, 0), 4, 1, 0);
        three("most by law 1", most(e, 0, 0, 1), 2, 1, 0);
        three("most by law 2, the first", most(e, 0, 0, 2), 1, 1, 0);
        three("most of the last row", most(e, 1, 0, 0), 2, 1, 1);
        three("most of the last row, all alike", most(e, 1, 0, 1), 1, 0, 1);
        three("most in fog 9", most(e, 0, 9, 0), 0, 0, 0);
        three("least by law 0", least(e, 0, 0, 0), 1, 0, 0);
        three("least by law 2", least(e, 0, 0, 2), 0, 0, 0);
        three("least of the last row", least(e, 1, 0, 0), 1, 0, 1);
        three("mean by law 0", mean(e, 0, 0, 0), 5, 3);
        three("mean by law 1", mean(e, 0, 0, 1), 7, 6);
        three("mean by law 2", mean(e, 0, 0, 2), 1, 3);
        three("mean of nothing", mean(e, 0, 9, 0), 0, 1);
        three("mean of all alike", mean(e, 1, 0, 1), 1, 1);
        SoldEchoes column = Check.valleyOf(PAIR + "field 1 0 2 1 1;");
        three("least behind the first cell", least(column, 0, 0, 0), 1, 2, 0);
        Check.noField("most", () -> e.most(2, 0, 0, 0));
        Check.noField("least", () -> e.least(-1, 0, 0, 0));
        Check.noField("mean", () -> e.mean(5, 0, 0, 0));
        Check.noArgument("most fog", () -> e.most(0, 10, 0, 0));
        Check.noArgument("most law", () -> e.most(0, 0, 3, 0));
        Check.noArgument("most what", () -> e.most(0, 0, 0, 3));
        Check.noArgument("least fog", () -> e.least(0, -1, 0, 0));
        Check.noArgument("least law", () -> e.least(0, 0, -1, 0));
        Check.noArgument("least what", () -> e.least(0, 0, 0, -1));
        Check.noArgument("least what 3", () -> e.least(0, 0, 0, 3));
        Check.noArgument("mean fog", () -> e.mean(0, 10, 0, 0));
        Check.noArgument("mean law", () -> e.mean(0, 0, 3, 0));
        Check.noArgument("mean what", () -> e.mean(0, 0, 0, 2));
    }

    private static void worth() {
        int[] due = {12, 6, 3};
        for (int law = 0; law < 3; law++) {
            SoldEchoes e = Check.valleyOf(PAIR + "field 0 0 2 1 3;law " + law + ";");
            Check.due("worth by the law told, " + law, e.worth(0, 0), due[law]);
        }
        SoldEchoes e = Check.valleyOf(PAIR + "field 1 0 1 0 3;");
        Check.due("worth in fog 1", e.worth(0, 1), 6);
        Check.due("worth in fog 9", e.worth(0, 9), 0);
        Check.noField("worth", () -> e.worth(1, 0));
        Check.noArgument("worth fog", () -> e.worth(0, 10));
    }

    private static void gain() {
        SoldEchoes e = Check.valleyOf(PAIR + "field 0 0 2 1 3;");
        Check.due("one echo more", e.gain(1, 1, 0), 3);
        Check.due("no barn is left there", e.cell(1, 1, 0), 0);
        Check.due("none where there is a face", e.gain(0, 0, 0), 0);
        SoldEchoes less = Check.valleyOf("valley 5 2;face 4 0 9;loud 10;field 0 0 0 0 7;");
        Check.due("a barn in between takes the echo", less.gain(3, 0, 0), -7);
        Check.due("a barn on the cell itself does nothing", less.gain(0, 0, 0), 0);
        Check.noCell("gain outside, and no field", () -> less.gain(5, 0, 1));
        Check.noField("gain", () -> less.gain(0, 0, 1));
    }

    // From 1 1 one barn gives 1 echo, two of them that are opposite 4.
    private static final String SITES = "valley 3 3;site 0 0 5;site 2 2 3;site 0 1 3;site 1 0 9;";

    private static void building() {
        SoldEchoes e = Check.valleyOf(SITES + "field 1 1 1 1 2;");
        int[][] due = {{0, 0}, {3, 2}, {6, 6}, {8, 3}, {8, 3}, {11, 7}, {20, 15}, {-1, -1}};
        for (int n = 0; n < due.length; n++) {
            Check.due("building cost for " + n, e.building(0, n, 0), due[n][0]);
            Check.due("building bits for " + n, e.building(0, n, 1), due[n][1]);
        }
        Check.due("building for 24", e.building(0, 24, 0), -1);
        Check.due("nothing was built", e.echoes(1, 1, 0), 0);
        e.build(2, 2);
        int[][] dueWithBarn = {{0, 0}, {0, 0}, {3, 4}, {5, 1}, {5, 1}};
        for (int n = 0; n < dueWithBarn.length; n++) {
            Check.due("building cost beside a barn for " + n, e.building(0, n, 0), dueWithBarn[n][0]);
            Check.due("building bits beside a barn for " + n, e.building(0, n, 1), dueWithBarn[n][1]);
        }
        Check.due("the barn stays", e.cell(2, 2, 0), 5);
        SoldEchoes times = Check.valleyOf(SITES + "law 1;field 1 1 1 1 2;");
        Check.due("by the law told: all come at time 2", times.building(0, 2, 1), 3);
        Check.noField("building", () -> e.building(1, 0, 0));
        Check.noArgument("n 25", () -> e.building(0, 25, 0));
        Check.noArgument("n -1", () -> e.building(0, -1, 0));
        Check.noArgument("what 2", () -> e.building(0, 0, 2));
    }

    private static void rests() {
        rests("field 1 1 1 1 2;", 1, 0);
        rests("field 1 1 1 1 4;", 2, 2);
        rests("field 1 1 1 1 4;field 1 1 1 1 4;", 2, 12);
        // Site 1 has a face and can't be chosen; site 0, opposite to it, gives three echoes more for 5.
        rests("face 2 2 1;field 1 1 1 1 4;", 1, 1);
        rests("", 1, 0);
        SoldEchoes none = Check.valleyOf("valley 2 2;field 0 0 1 1 1;field 0 0 1 1 1;");
        Check.due("no sites: one row", none.rests(0), 1);
        Check.due("no sites: all choose none", none.rests(1), 0);
        // The first field's owner wants a barn beside the other one's; the other one, if there is one, wants to pay for none.
        SoldEchoes restless = Check.valleyOf("valley 4 2;loud 23;face 3 1 8;site 1 0 2;site 3 0 2;field 2 0 2 0 1;field 0 0 0 0 3;");
        Check.due("no rest", restless.rests(0), 0);
        Check.due("no first rest", restless.rests(1), -1);
        Check.noArgument("rests(2)", () -> none.rests(2));
        Check.noArgument("rests(-1)", () -> none.rests(-1));
    }

    private static void rests(String more, int many, int first) {
        SoldEchoes e = Check.valleyOf(SITES + more);
        Check.due("rests(0) with " + more, e.rests(0), many);
        Check.due("rests(1) with " + more, e.rests(1), first);
        Check.due("no barn is left", e.cell(0, 0, 0), 0);
    }

    private static void fairAndTrade() {
        // Worth 12 in fog 0, 6 in fog 1, 0 in fog 9.
        String field = PAIR + "field 1 0 1 0 3;";
        SoldEchoes e = Check.valleyOf(field + "season 0 1;season 1 2;season 9 4;");
        Check.due("fair above", e.fair(0, 0), 24);
        Check.due("fair below", e.fair(0, 1), 7);
        Check.due("trade", e.trade(0, 0), 12);
        Check.due("bought in 2, sold in 0", e.trade(0, 1), 20);
        SoldEchoes whole = Check.valleyOf(field + "season 0 1;season 1 2;season 9 3;");
        Check.due("fair above, in least terms", whole.fair(0, 0), 4);
        Check.due("fair below, in least terms", whole.fair(0, 1), 1);
        SoldEchoes alike = Check.valleyOf(field + "season 0 1;season 9 1;season 9 1;season 0 1;");
        Check.due("the first of alike trades", alike.trade(0, 1), 10);
        SoldEchoes later = Check.valleyOf(field + "season 9 1;season 1 1;season 0 1;season 0 1;");
        Check.due("sold later", later.trade(0, 1), 2);
        SoldEchoes nothing = Check.valleyOf(field + "season 9 3;season 9 3;");
        Check.due("fair of nothing, above", nothing.fair(0, 0), 0);
        Check.due("fair of nothing, below", nothing.fair(0, 1), 1);
        Check.due("never more", nothing.trade(0, 0), 0);
        Check.due("never more: no pair", nothing.trade(0, 1), -1);
        SoldEchoes none = Check.valleyOf(field);
        Check.due("fair without seasons, above", none.fair(0, 0), 12);
        Check.due("fair without seasons, below", none.fair(0, 1), 1);
        Check.due("trade without seasons", none.trade(0, 0), 0);
        Check.due("trade without seasons: no pair", none.trade(0, 1), -1);
        Check.noField("fair", () -> e.fair(1, 0));
        Check.noField("trade", () -> e.trade(1, 0));
        Check.noArgument("fair what", () -> e.fair(0, 2));
        Check.noArgument("trade what", () -> e.trade(0, 2));
    }

    private static void unlike() {
        // By law 0 worth 4 4 3, by law 1 2 2 3, by law 2 1 2 0.
        SoldEchoes e = Check.valleyOf(PAIR + "field 1 0 1 0 1;field 1 1 1 1 2;field 0 0 0 0 3;law 2;");
        Check.due("unlike(0, 1)", e.unlike(0, 1), 2);
        Check.due("unlike(1, 0)", e.unlike(1, 0), 2);
        Check.due("unlike(0, 2)", e.unlike(0, 2), 1);
        Check.due("unlike(2, 0)", e.unlike(2, 0), 1);
        Check.due("unlike(1, 2)", e.unlike(1, 2), 3);
        Check.due("unlike(1, 1)", e.unlike(1, 1), 0);
        Check.noArgument("unlike(3, 0)", () -> e.unlike(3, 0));
        Check.noArgument("unlike(0, -1)", () -> e.unlike(0, -1));
    }

    private static void heard() {
        SoldEchoes e = Check.valleyOf(PAIR);
        Check.due("one note at 2", e.heard(1, 0, 1, 2), 10);
        Check.due("one note at 3", e.heard(1, 0, 1, 3), 0);
        Check.due("one note at 4", e.heard(1, 0, 1, 4), 4);
        Check.due("two notes add", e.heard(1, 0, 5, 4), 14);
        Check.due("the last note", e.heard(1, 0, 2048, 15), 4);
        Check.due("no notes", e.heard(1, 0, 0, 2), 0);
        Check.due("time 0", e.heard(1, 0, 4095, 0), 0);
        Check.due("time 99", e.heard(1, 0, 4095, 99), 0);
        Check.noCell("outside", () -> e.heard(0, 2, 4096, 0));
        Check.noArgument("notes -1", () -> e.heard(0, 0, -1, 0));
        Check.noArgument("notes 4096", () -> e.heard(0, 0, 4096, 0));
        Check.noArgument("time -1", () -> e.heard(0, 0, 0, -1));
        Check.noArgument("time 100", () -> e.heard(0, 0, 0, 100));
    }

    private static void loudest() {
        SoldEchoes e = Check.valleyOf(PAIR);
        Check.due("loudest", e.loudest(1, 0, 5, 0), 14);
        Check.due("its time", e.loudest(1, 0, 5, 1), 4);
        Check.due("of alike times", e.loudest(1, 0, 3, 0), 10);
        Check.due("the first", e.loudest(1, 0, 3, 1), 2);
        Check.due("the last note", e.loudest(1, 0, 2048, 1), 13);
        SoldEchoes once = Check.valleyOf("valley 2 2;face 1 0 9;");
        Check.due("one echo of the last note", once.loudest(0, 0, 2048, 0), 17);
        Check.due("at the last time", once.loudest(0, 0, 2048, 1), 13);
        Check.due("nothing heard", e.loudest(1, 0, 0, 0), 0);
        Check.due("nothing heard, time", e.loudest(1, 0, 0, 1), 0);
        Check.noCell("outside", () -> e.loudest(-1, 0, 0, 0));
        Check.noArgument("notes", () -> e.loudest(0, 0, 4096, 0));
        Check.noArgument("what", () -> e.loudest(0, 0, 0, 2));
    }

    private static void compose() {
        SoldEchoes e = Check.valleyOf(PAIR);
        Check.due("of 1", e.compose(1, 0, 1), 1);
        Check.due("of 2", e.compose(1, 0, 2), 5);
        Check.due("of 3", e.compose(1, 0, 3), 7);
        Check.due("of 12", e.compose(1, 0, 12), 4095);
        SoldEchoes still = Check.valleyOf("valley 2 2;");
        Check.due("where nothing is heard, the least", still.compose(0, 0, 4), 15);
        Check.noCell("outside", () -> e.compose(3, 0, 0));
        Check.noArgument("k 0", () -> e.compose(0, 0, 0));
        Check.noArgument("k 13", () -> e.compose(0, 0, 13));
    }

    private static void bookAndForget() {
        SoldEchoes e = Check.valleyOf("valley 2 2;");
        Check.noCell("outside", () -> e.book(2, 0, 0, 25));
        Check.noArgument("time 0", () -> e.book(0, 0, 0, 0));
        Check.noArgument("time 100", () -> e.book(0, 0, 100, 0));
        Check.noArgument("many -1", () -> e.book(0, 0, 1, -1));
        Check.noArgument("many 25", () -> e.book(0, 0, 1, 25));
        for (int i = 1; i <= 9; i++) {
            Check.due("line " + i, e.book(1, 1, i == 1 ? 1 : 99, i == 1 ? 24 : 0), i);
        }
        Check.due("nine lines at most", e.book(0, 0, 1, 0), -1);
        Check.noArgument("refused all the same", () -> e.book(0, 0, 0, 0));
        Check.due("nine lines", e.told(10), 9);
        Check.due("forget", e.forget(), 9);
        Check.due("forget again", e.forget(), 0);
        Check.due("a line again", e.book(0, 0, 1, 0), 1);
    }

    private static void explain(SoldEchoes e, String when, int... due) {
        for (int what = 0; what < 4; what++) {
            Check.due("explain(" + what + ") " + when, e.explain(what), due[what]);
        }
    }

    private static void explain() {
        SoldEchoes e = Check.valleyOf("valley 3 3;maybe 0 0;maybe 2 2;maybe 1 0;face 1 0 9;");
        explain(e, "an empty book", 8, 0, 0, 0);
        e.book(1, 1, 2, 2);
        explain(e, "one of two", 4, 1, 0, 0);
        e.book(1, 1, 4, 0);
        explain(e, "the same again", 4, 1, 0, 0);
        e.book(0, 1, 2, 2);
        explain(e, "the first of two", 2, 1, 1, 2);
        Check.due("the old face stays", e.cell(1, 0, 0), 9);
        Check.due("no new one is left", e.cell(0, 0, 0), 0);
        e.book(0, 0, 99, 1);
        explain(e, "no set", 0, -1, 0, 0);
        Check.noArgument("explain(4)", () -> e.explain(4));
        Check.noArgument("explain(-1)", () -> e.explain(-1));
        SoldEchoes hard = Check.valleyOf("valley 3 2;maybe 0 0;loud 8;");
        hard.book(1, 0, 2, 1);
        explain(hard, "hard 5: 8 is heard", 1, 1, 1, 0);
        Check.tell(hard, "valley 3 2;maybe 0 0;loud 7;");
        hard.book(1, 0, 2, 1);
        explain(hard, "hard 5: 7 is not", 0, -1, 0, 0);
    }

    private static void ask(SoldEchoes e, String when, int... due) {
        for (int what = 0; what < 3; what++) {
            Check.due("ask(" + what + ") " + when, e.ask(what), due[what]);
        }
    }

    private static void ask() {
        SoldEchoes e = Check.valleyOf("valley 3 3;maybe 0 0;maybe 2 2;maybe 1 0;face 1 0 9;");
        e.book(1, 1, 2, 2);
        ask(e, "where the face can't be told", 0, 0, 2);
        e.book(0, 0, 99, 1);
        ask(e, "no set", -1, -1, -1);
        ask(Check.valleyOf("valley 4 2;maybe 2 1;"), "not the first cell", 1, 0, 1);
        ask(Check.valleyOf("valley 2 2;"), "without maybe cells", 0, 0, 1);
        ask(new SoldEchoes(), "without cells", -1, -1, -1);
        Check.noArgument("ask(3)", () -> e.ask(3));
        Check.noArgument("ask(-1)", () -> e.ask(-1));
    }

    private static void snows() {
        SoldEchoes e = Check.valleyOf("valley 5 2;face 4 0 5;loud 10;snow 4 0 6;snow 0 0 10;snow 2 0 3;snow 2 0 9;");
        Check.due("ahead of a face; on the cell itself by S", e.snows(0, 0), 7);
        Check.due("from below", e.snows(2, 1), 12);
        Check.due("none", e.snows(0, 1), 0);
        SoldEchoes back = Check.valleyOf("valley 4 2;face 2 0 9;loud 10;snow 0 0 6;");
        // From 1 0 it comes to 2 0, back to 1 0, and on to 0 0.
        Check.due("straight, and behind an echo", back.snows(1, 0), 1);
        Check.due("behind the face", back.snows(3, 0), 0);
        Check.noCell("outside", () -> e.snows(5, 0));
    }

    private static void safe() {
        Check.due("safe cells", Check.valleyOf("valley 5 2;face 4 0 5;loud 10;snow 4 0 6;").safe(), 3);
        Check.due("safe without snow", Check.valleyOf("valley 5 2;").safe(), 10);
    }

    private static void hush() {
        SoldEchoes e = Check.valleyOf("valley 5 2;face 4 0 5;loud 10;snow 4 0 6;snow 0 0 1;");
        Check.due("not even 1", e.hush(0, 0), 0);
        Check.due("1 is gone at once", e.hush(0, 1), 1);
        Check.due("one cell off", e.hush(4, 1), 6);
        Check.due("no snow that way", e.hush(2, 1), 99);
        SoldEchoes high = Check.valleyOf("valley 2 2;snow 0 0 99;");
        Check.due("99 on the cell itself", high.hush(0, 0), 98);
        Check.due("99 beside it", high.hush(1, 0), 99);
        SoldEchoes thin = Check.valleyOf("valley 3 2;wood 1 0 1;snow 2 0 10;");
        Check.due("behind the thinnest wood", thin.hush(0, 0), 12);
        SoldEchoes wood = Check.valleyOf("valley 3 2;wood 1 0 4;snow 2 0 10;");
        Check.due("behind a wood", wood.hush(0, 0), 15);
        wood.years(3);
        Check.due("behind a wood of 3 years", wood.hush(0, 0), 18);
        Check.noCell("outside", () -> e.hush(0, 2));
    }

    private static void deaf() {
        SoldEchoes e = Check.valleyOf(PAIR + "field 0 0 2 1 3;law 2;");
        int[] due = {4, 4, 2, 2, 2, 0};
        for (int d = 1; d <= due.length; d++) {
            Check.due("deaf(0, " + d + ")", e.deaf(0, d), due[d - 1]);
        }
        Check.due("deaf(0, 99)", e.deaf(0, 99), 0);
        Check.noField("deaf", () -> e.deaf(1, 0));
        Check.noArgument("deaf 0", () -> e.deaf(0, 0));
        Check.noArgument("deaf 100", () -> e.deaf(0, 100));
    }

    private static void images() {
        SoldEchoes e = Check.valleyOf("valley 2 2;wood 1 1 3;");
        Check.due("image 1", e.image(), 1);
        e.build(0, 0);
        e.fell(1, 1);
        e.years(4);
        e.book(0, 0, 7, 1);
        Check.due("image 2", e.image(), 2);
        e.forget();
        Check.due("image 3", e.image(), 3);
        Check.due("three at most", e.image(), -1);
        Check.due("sums(0)", e.sums(0), 3);
        e.build(1, 0);
        e.years(1);
        Check.due("restore the third", e.restore(), 2);
        Check.due("no barn", e.cell(1, 0, 0), 0);
        Check.due("4 years", e.told(9), 4);
        Check.due("no lines", e.told(10), 0);
        Check.due("restore the second", e.restore(), 1);
        Check.due("one line", e.told(10), 1);
        Check.due("no set explains it", e.explain(0), 0);
        Check.due("the wood is felled", e.cell(1, 1, 1), 0);
        Check.due("image again", e.image(), 2);
        Check.due("restore it", e.restore(), 1);
        Check.due("restore the first", e.restore(), 0);
        Check.due("the wood is back", e.cell(1, 1, 1), 3);
        Check.due("no barn", e.cell(0, 0, 0), 0);
        Check.due("no years", e.told(9), 0);
        Check.due("no lines", e.told(10), 0);
        Check.due("none is left", e.restore(), -1);
    }

    private static void status() {
        SoldEchoes e = Check.valleyOf("valley 2 2;field 0 0 0 0 1;");
        e.image();
        Check.noCell("a cell", () -> e.cell(2, 0, 7));
        Check.noCell("a cell", () -> e.hush(0, 2));
        Check.noField("a field", () -> e.worth(1, 10));
        Check.noArgument("fog", () -> e.worth(0, 10));
        Check.noArgument("valley", () -> e.valley(1));
        Check.noArgument("years", () -> e.years(-1));
        e.restore();
        e.restore();
        int[] due = {2, 1, 3};
        for (int what = 0; what < 3; what++) {
            Check.due("status(" + what + ")", e.status(what), due[what]);
        }
        Check.due("status(3)", e.status(3), -1);
        Check.due("status(-1)", e.status(-1), -1);
        Check.tell(e, "valley 2 2;");
        Check.due("a new valley keeps it", e.status(2), 3);
    }

    private static void sums() {
        SoldEchoes e = new SoldEchoes();
        e.feed(0, 0, 0, 0, 0);
        e.image();
        e.image();
        Check.due("images", e.sums(0), 2);
        Check.due("bytes", e.sums(1), 20);
        Check.due("sums(2)", e.sums(2), -1);
        Check.due("sums(-1)", e.sums(-1), -1);
    }

    /** No such cell comes first, then no such field, then the numbers. */
    private static void orderOfRefusals() {
        SoldEchoes e = Check.valleyOf("valley 2 2;field 0 0 0 0 1;");
        Check.noCell("gain", () -> e.gain(2, 2, 9));
        Check.noCell("heard", () -> e.heard(2, 2, -1, -1));
        Check.noCell("count", () -> e.count(2, 2, -1, -1));
        Check.noField("field", () -> e.field(9, 9));
        Check.noField("most", () -> e.most(9, 99, 9, 9));
        Check.noField("least", () -> e.least(9, 99, 9, 9));
        Check.noField("mean", () -> e.mean(9, 99, 9, 9));
        Check.noField("worth", () -> e.worth(9, 99));
        Check.noField("building", () -> e.building(9, 99, 9));
        Check.noField("fair", () -> e.fair(9, 9));
        Check.noField("trade", () -> e.trade(9, 9));
        Check.noField("deaf", () -> e.deaf(9, 0));
    }
}
