/** Shouts, echoes, counts, songs and snow, on both sides of every bound that the document names. */
public final class ShoutEdgesTest {
    private static final int NONE = -1;
    private static final String RING = "face 0 0 9;face 1 0 9;face 2 0 9;face 0 1 9;face 2 1 9;face 0 2 9;face 1 2 9;face 2 2 9;";

    public static void main(String[] args) {
        eightWays();
        goneOnItsWay();
        goneInFog();
        goneInAWood();
        woodWhereItWasShouted();
        goneAtAFace();
        hardFromOneToNine();
        goneOutside();
        turnsBackAtTheFirstFace();
        thirdEcho();
        thirdEchoIsTooWeak();
        goesOnBehindTheCell();
        faceOnTheCellItself();
        byTimeThenByWay();
        echoNumbers();
        strengthTen();
        unlikeTimes();
        yearsUpToTwenty();
        loudFromOneTo99();
        heardAtTimes();
        loudestIsTheFirst();
        loudestOfNothing();
        composedOfK();
        snowAtL();
        snowAheadOfAFace();
        snowOnTheCellItself();
        snowsByNumber();
        snowWithoutFog();
        safeCells();
        hushBounds();
        hushIsNotTheValleysLoud();
        Check.end("ShoutEdgesTest");
    }

    /** As many echoes as due, and the strength of the first (NONE without). */
    private static void shout(String text, int x, int y, int fog, int echoes, int strength) {
        SoldEchoes e = Check.valleyOf(text);
        Check.due("echoes(" + x + ", " + y + ", " + fog + ") in " + text, e.echoes(x, y, fog), echoes);
        Check.due("strength of the first in " + text, e.echo(x, y, fog, 0, 1), strength);
    }

    /** "0: X more; 1: X and Y more; 2: Y more; 3: X less, Y more; 4: X less; 5: both less; 6: Y less; 7: X more, Y less" */
    private static void eightWays() {
        int[][] faces = {{5, 3}, {5, 5}, {3, 5}, {1, 5}, {1, 3}, {1, 1}, {3, 1}, {5, 1}};
        for (int way = 0; way < 8; way++) {
            SoldEchoes e = Check.valleyOf("valley 7 7;face " + faces[way][0] + " " + faces[way][1] + " 9;");
            Check.due("one face, one echo, way " + way, e.echoes(3, 3, 0), 1);
            Check.due("its way", e.echo(3, 3, 0, 0, 2), way);
            Check.due("its time", e.echo(3, 3, 0, 0, 0), 4);
        }
    }

    /** "for each cell that it comes to, its strength is 1 and FOG less ..; below 1 it is gone" */
    private static void goneOnItsWay() {
        // 3 steps, 1 by the face, 3 steps.
        shout("valley 4 2;face 3 0 9;loud 8;", 0, 0, 0, 1, 1);
        shout("valley 4 2;face 3 0 9;loud 7;", 0, 0, 0, 0, NONE);
        shout("valley 4 4;face 3 3 9;loud 8;", 0, 0, 0, 1, 1);
        shout("valley 4 4;face 3 3 9;loud 7;", 0, 0, 0, 0, NONE);
        // The longest way there is: 9 steps, 1, 9 steps.
        shout("valley 10 2;face 9 1 9;loud 20;", 0, 1, 0, 1, 1);
        shout("valley 10 2;face 9 1 9;loud 19;", 0, 1, 0, 0, NONE);
        shout("valley 2 10;face 1 0 9;", 1, 9, 0, 1, 1);
    }

    private static void goneInFog() {
        String text = "valley 2 2;face 1 0 9;";
        for (int fog = 0; fog <= 9; fog++) {
            int lost = 2 * (1 + fog) + 1;
            shout(text + "loud " + (lost + 1) + ";", 0, 0, fog, 1, 1);
            shout(text + "loud " + lost + ";", 0, 0, fog, 0, NONE);
        }
    }

    /** "by a WOOD there N and YEARS less" */
    private static void goneInAWood() {
        for (int thick = 1; thick <= 9; thick += 8) {
            // 2 steps, 1 by the face, 2 steps, and the wood on the way there and back.
            int lost = 5 + 2 * thick;
            String text = "valley 3 2;face 2 0 9;wood 1 0 " + thick + ";loud ";
            shout(text + (lost + 1) + ";", 0, 0, 0, 1, 1);
            shout(text + lost + ";", 0, 0, 0, 0, NONE);
        }
        // A wood on the face's cell takes its part once.
        shout("valley 2 2;face 1 0 9;wood 1 0 4;loud 8;", 0, 0, 0, 1, 1);
        shout("valley 2 2;face 1 0 9;wood 1 0 4;loud 7;", 0, 0, 0, 0, NONE);
    }

    /** It comes to that cell as an echo alone: its wood does not weaken it when it is shouted. */
    private static void woodWhereItWasShouted() {
        shout("valley 2 2;face 1 0 9;wood 0 0 5;loud 9;", 0, 0, 0, 1, 1);
        shout("valley 2 2;face 1 0 9;wood 0 0 5;loud 8;", 0, 0, 0, 0, NONE);
        SoldEchoes e = Check.valleyOf("valley 2 2;face 1 0 9;wood 0 0 5;loud 10;");
        e.years(1);
        Check.due("a year more", e.echo(0, 0, 0, 0, 1), 1);
        e.years(1);
        Check.due("two years more", e.echoes(0, 0, 0), 0);
        e.fell(0, 0);
        Check.due("without a wood there are no years", e.echo(0, 0, 0, 0, 1), 7);
    }

    /** "At a FACE it is 10 less HARD less (below 1: gone)" */
    private static void goneAtAFace() {
        shout("valley 2 2;face 1 0 1;loud 12;", 0, 0, 0, 1, 1);
        shout("valley 2 2;face 1 0 1;loud 11;", 0, 0, 0, 0, NONE);
        shout("valley 2 2;face 1 0 1;loud 10;", 0, 0, 0, 0, NONE);
        shout("valley 2 2;face 1 0 1;loud 1;", 0, 0, 0, 0, NONE);
    }

    private static void hardFromOneToNine() {
        for (int hard = 1; hard <= 9; hard++) {
            shout("valley 2 2;face 1 1 " + hard + ";loud 40;", 0, 0, 0, 1, 38 - (10 - hard));
        }
    }

    /** "outside of the VALLEY, too": no side turns a shout back. */
    private static void goneOutside() {
        SoldEchoes e = Check.valleyOf("valley 3 3;loud 99;");
        for (int cell = 0; cell < 9; cell++) {
            Check.due("nothing comes back from outside", e.echoes(cell % 3, cell / 3, 0), 0);
        }
        // Cells next to each other by number only, at the end of a row and the beginning of the next one.
        SoldEchoes row = Check.valleyOf("valley 10 3;face 0 1 9;loud 99;");
        Check.due("no way over the right side", row.echoes(9, 0, 0), 0);
        Check.due("no way over the left side", Check.valleyOf("valley 10 3;face 9 0 9;loud 99;").echoes(0, 1, 0), 0);
    }

    private static void turnsBackAtTheFirstFace() {
        SoldEchoes e = Check.valleyOf("valley 6 2;face 3 0 9;face 5 0 9;loud 50;");
        Check.due("the first face alone", e.echoes(1, 0, 0), 1);
        Check.due("its time", e.echo(1, 0, 0, 0, 0), 4);
        Check.due("between both", e.echoes(4, 0, 0), 6);
    }

    /** "behind its 3rd ECHO it is gone" */
    private static void thirdEcho() {
        SoldEchoes e = Check.valleyOf("valley 3 2;face 0 0 9;face 2 0 9;loud 99;");
        Check.due("three a way, however strong", e.echoes(1, 0, 0), 6);
        int[][] due = {{2, 96, 0, 1}, {2, 96, 4, 1}, {4, 93, 0, 2}, {4, 93, 4, 2}, {6, 90, 0, 3}, {6, 90, 4, 3}};
        for (int i = 0; i < due.length; i++) {
            for (int what = 0; what < 4; what++) {
                Check.due("echo " + i + ", what " + what, e.echo(1, 0, 0, i, what), due[i][what]);
            }
        }
        Check.due("behind the last", e.echo(1, 0, 0, 6, 0), NONE);
        Check.due("nothing is heard at time 8", e.heard(1, 0, 1, 8), 0);
    }

    private static void thirdEchoIsTooWeak() {
        String text = "valley 3 2;face 0 0 9;face 2 0 9;loud ";
        int[] due = {0, 0, 0, 2, 2, 2, 4, 4, 4, 6, 6, 6, 6};
        for (int loud = 1; loud <= due.length; loud++) {
            SoldEchoes e = Check.valleyOf(text + loud + ";");
            Check.due("echoes of loud " + loud, e.echoes(1, 0, 0), due[loud - 1]);
        }
    }

    /** "it goes on behind that cell, till the next FACE that way, and so on" */
    private static void goesOnBehindTheCell() {
        Check.due("no face behind: one echo", Check.valleyOf("valley 5 2;face 4 0 9;loud 99;").echoes(1, 0, 0), 1);
        SoldEchoes e = Check.valleyOf("valley 6 2;face 0 0 9;face 5 0 9;wood 1 0 3;loud 60;");
        // From 2 0 by way 0: 3 cells to 5 0 and back, on by way 4 to 0 0, 2 cells off, through the wood twice.
        int[][] due = {{4, 60 - 5 - 6, 4, 1}, {6, 60 - 7, 0, 1}, {10, 53 - 5 - 6, 0, 2}, {10, 49 - 7, 4, 2}};
        for (int i = 0; i < due.length; i++) {
            for (int what = 0; what < 4; what++) {
                Check.due("echo " + i + " between two faces, what " + what, e.echo(2, 0, 0, i, what), due[i][what]);
            }
        }
    }

    /** "(A FACE on the cell itself does nothing.)" */
    private static void faceOnTheCellItself() {
        for (int hard = 1; hard <= 9; hard += 8) {
            String text = "valley 3 2;face 0 0 9;face 1 0 " + hard + ";face 2 0 9;loud 10;";
            shout(text, 1, 0, 0, 6, 7);
            Check.due("the third has 1", Check.valleyOf(text).echo(1, 0, 0, 5, 1), 1);
        }
        shout("valley 3 2;face 1 0 9;", 1, 0, 0, 0, NONE);
        shout("valley 3 2;face 1 0 9;", 0, 0, 0, 1, 17);
    }

    /** "ECHOES of a SHOUT stand by time, of one time by WAY" */
    private static void byTimeThenByWay() {
        SoldEchoes e = Check.valleyOf("valley 3 3;loud 99;" + RING);
        for (int i = 0; i < 24; i++) {
            Check.due("time of " + i, e.echo(1, 1, 0, i, 0), 2 + i / 8 * 2);
            Check.due("strength of " + i, e.echo(1, 1, 0, i, 1), 96 - i / 8 * 3);
            Check.due("way of " + i, e.echo(1, 1, 0, i, 2), i % 8);
            Check.due("which of " + i, e.echo(1, 1, 0, i, 3), 1 + i / 8);
        }
        Check.due("24 at most", e.echoes(1, 1, 0), 24);
        // The later way's first echo stands ahead of the earlier way's second one, and of its first one if that is later.
        SoldEchoes mixed = Check.valleyOf("valley 6 2;face 0 0 9;face 4 0 9;loud 40;");
        int[][] order = {{2, 4}, {6, 0}, {8, 0}, {8, 4}, {10, 4}, {14, 0}};
        for (int i = 0; i < order.length; i++) {
            Check.due("time of " + i, mixed.echo(1, 0, 0, i, 0), order[i][0]);
            Check.due("way of " + i, mixed.echo(1, 0, 0, i, 2), order[i][1]);
        }
    }

    /** "Of its i-th ECHO ..; NONE: none such": i from 0 to one less than how many. */
    private static void echoNumbers() {
        SoldEchoes e = Check.valleyOf("valley 3 3;loud 99;" + RING);
        for (int what = 0; what < 4; what++) {
            for (int none : new int[] {-1, 24, 25, 256, Integer.MIN_VALUE, Integer.MAX_VALUE}) {
                Check.due("echo " + none + ", what " + what, e.echo(1, 1, 0, none, what), NONE);
            }
            Check.so("the last, what " + what, e.echo(1, 1, 0, 23, what) != NONE);
            Check.due("the first of none, what " + what, Check.valleyOf("valley 2 2;").echo(0, 0, 0, 0, what), NONE);
        }
        Check.due("none such is not refused", e.status(2), 0);
    }

    /** "2 how many times at which all together have strength 10 or more" */
    private static void strengthTen() {
        int[] due = {0, 0, 1, 1};
        for (int loud = 11; loud <= 14; loud++) {
            SoldEchoes e = Check.valleyOf("valley 2 2;face 1 0 9;loud " + loud + ";");
            Check.due("one echo of strength " + (loud - 3), e.count(0, 0, 0, 2), due[loud - 11]);
            Check.due("it is one all the same", e.count(0, 0, 0, 1), 1);
        }
        SoldEchoes ten = Check.valleyOf("valley 3 2;face 0 0 9;face 2 0 9;loud 8;");
        Check.due("5 and 5, then 2 and 2", ten.count(1, 0, 0, 2), 1);
        SoldEchoes nine = Check.valleyOf("valley 3 2;face 0 0 9;face 2 0 8;loud 8;");
        Check.due("5 and 4, then 1 and 1", nine.count(1, 0, 0, 2), 0);
        Check.due("four echoes", nine.count(1, 0, 0, 0), 4);
        Check.due("at two times", nine.count(1, 0, 0, 1), 2);
        // Strengths of unlike times do not add: at 2, 4, 6, 8 and 10 come 11, 9, 6 and 6, 3, 1; louder by one 12, 10, 7 and 7, 4, 2.
        String apart = "valley 4 2;face 0 0 9;face 3 0 9;loud ";
        Check.due("five unlike times, 9 at the second", Check.valleyOf(apart + "14;").count(1, 0, 0, 2), 2);
        Check.due("five unlike times, 10 at the second", Check.valleyOf(apart + "15;").count(1, 0, 0, 2), 3);
        Check.due("five unlike times", Check.valleyOf(apart + "14;").count(1, 0, 0, 1), 5);
    }

    private static void unlikeTimes() {
        SoldEchoes e = Check.valleyOf("valley 3 3;loud 99;" + RING);
        Check.due("24 echoes", e.count(1, 1, 0, 0), 24);
        Check.due("3 times", e.count(1, 1, 0, 1), 3);
        Check.due("3 strong times", e.count(1, 1, 0, 2), 3);
        SoldEchoes none = Check.valleyOf("valley 2 2;");
        for (int law = 0; law <= 2; law++) {
            Check.due("of no echoes by law " + law, none.count(0, 0, 0, law), 0);
        }
    }

    /** "So many YEARS more (0 to 20): how many then (20 at most)" */
    private static void yearsUpToTwenty() {
        SoldEchoes e = Check.valleyOf("valley 3 2;face 2 0 9;wood 1 0 1;loud 99;");
        Check.due("no years", e.years(0), 0);
        Check.due("strength without years", e.echo(0, 0, 0, 0, 1), 92);
        Check.due("19", e.years(19), 19);
        Check.due("strength in 19 years", e.echo(0, 0, 0, 0, 1), 92 - 38);
        Check.due("19 and 0", e.years(0), 19);
        Check.due("19 and 1", e.years(1), 20);
        Check.due("20 and 1", e.years(1), 20);
        Check.due("20 and 20", e.years(20), 20);
        Check.due("told", e.told(9), 20);
        Check.due("strength in 20 years", e.echo(0, 0, 0, 0, 1), 92 - 40);
        Check.due("a wood is told without years", e.cell(1, 0, 1), 1);
        Check.due("a cell without a wood has none", e.cell(0, 0, 1), 0);
        Check.due("felled without years", e.fell(1, 0), 1);
        Check.due("strength without a wood", e.echo(0, 0, 0, 0, 1), 94);
        Check.due("20 at once", Check.valleyOf("valley 2 2;").years(20), 20);
        Check.due("20 without cells", new SoldEchoes().years(20), 20);
    }

    private static void loudFromOneTo99() {
        shout("valley 2 2;face 1 0 9;loud 1;", 0, 0, 0, 0, NONE);
        shout("valley 2 2;face 1 0 9;loud 99;", 0, 0, 0, 1, 96);
        shout("valley 2 2;face 1 0 9;", 0, 0, 0, 1, 17);
    }

    /** "HEARD at a time (0 to 99)", "NOTES (bits: times 0 to 11)" */
    private static void heardAtTimes() {
        for (int note = 0; note < 12; note++) {
            SoldEchoes e = Check.valleyOf("valley 2 2;face 1 0 9;");
            for (int time = 0; time <= 99; time++) {
                Check.due("note " + note + " at " + time, e.heard(0, 0, 1 << note, time), time == note + 2 ? 17 : 0);
            }
        }
        SoldEchoes chord = Check.valleyOf("valley 2 2;face 1 0 9;");
        for (int time = 0; time <= 99; time++) {
            Check.due("all notes at " + time, chord.heard(0, 0, 4095, time), time >= 2 && time <= 13 ? 17 : 0);
            Check.due("no notes at " + time, chord.heard(0, 0, 0, time), 0);
        }
        // The latest echo that there can be: 8 cells, 1 cell, 8 cells, and back each time.
        SoldEchoes late = Check.valleyOf("valley 10 2;face 0 0 9;face 9 0 9;loud 99;");
        Check.due("the third at 34", late.echo(8, 0, 0, 5, 0), 34);
        Check.due("of the last note at 45", late.heard(8, 0, 2048, 45), 99 - 34 - 3);
        Check.due("and none at 46", late.heard(8, 0, 2048, 46), 0);
        Check.due("the loudest of the last note: both ways at 18", late.loudest(8, 0, 2048, 0), 79 + 79);
        Check.due("heard 11 later", late.loudest(8, 0, 2048, 1), 29);
    }

    /** "LOUDEST: the most that is HEARD at a time, of these the first" */
    private static void loudestIsTheFirst() {
        SoldEchoes e = Check.valleyOf("valley 2 2;face 1 0 9;");
        Check.due("of all notes", e.loudest(0, 0, 4095, 0), 17);
        Check.due("the first time", e.loudest(0, 0, 4095, 1), 2);
        for (int note = 0; note < 12; note++) {
            Check.due("of note " + note, e.loudest(0, 0, 1 << note, 0), 17);
            Check.due("the time of note " + note, e.loudest(0, 0, 1 << note, 1), note + 2);
        }
        // 17 at time 2 and 14 at time 4: of notes 0 and 2 both come at time 4.
        SoldEchoes two = Check.valleyOf("valley 3 3;face 1 0 9;face 2 2 8;");
        Check.due("one note", two.loudest(0, 0, 1, 0), 17);
        Check.due("its time", two.loudest(0, 0, 1, 1), 2);
        Check.due("two notes that add", two.loudest(0, 0, 5, 0), 31);
        Check.due("their time", two.loudest(0, 0, 5, 1), 4);
        Check.due("two notes that do not", two.loudest(0, 0, 3, 0), 17);
        Check.due("the first time of these", two.loudest(0, 0, 3, 1), 2);
    }

    /** "(0 0: nothing is HEARD)" */
    private static void loudestOfNothing() {
        SoldEchoes e = Check.valleyOf("valley 2 2;face 1 0 9;");
        Check.due("no notes, how much", e.loudest(0, 0, 0, 0), 0);
        Check.due("no notes, the time", e.loudest(0, 0, 0, 1), 0);
        SoldEchoes still = Check.valleyOf("valley 2 2;face 1 0 9;loud 3;");
        Check.due("no echoes, how much", still.loudest(0, 0, 4095, 0), 0);
        Check.due("no echoes, the time", still.loudest(0, 0, 4095, 1), 0);
        SoldEchoes faint = Check.valleyOf("valley 2 2;face 1 0 9;loud 4;");
        Check.due("the faintest echo, how much", faint.loudest(0, 0, 4095, 0), 1);
        Check.due("the faintest echo, the time", faint.loudest(0, 0, 4095, 1), 2);
        Check.due("the object of before", e.loudest(0, 0, 1, 1), 2);
        Check.due("nothing behind something", e.loudest(0, 0, 0, 1), 0);
        Check.due("another cell's", e.loudest(1, 0, 1, 0), 0);
    }

    /** "COMPOSED of k NOTES: the SONG with the greatest LOUDEST, of these the least (bits)" */
    private static void composedOfK() {
        SoldEchoes still = Check.valleyOf("valley 2 2;");
        SoldEchoes one = Check.valleyOf("valley 2 2;face 1 0 9;");
        for (int k = 1; k <= 12; k++) {
            Check.due("nothing is heard, k " + k, still.compose(0, 0, k), (1 << k) - 1);
            Check.due("one echo, k " + k, one.compose(0, 0, k), (1 << k) - 1);
        }
        // The strong echo comes at 2, the next ones from 16 on: no two notes are so far apart.
        SoldEchoes far = Check.valleyOf("valley 10 2;face 0 0 9;face 9 0 9;loud 21;");
        Check.due("echoes too far apart", far.compose(1, 0, 2), 3);
        // Echoes at 6, 12 and 18 from the middle: notes 0 and 6 add.
        SoldEchoes middle = Check.valleyOf("valley 7 2;face 0 0 9;face 6 0 9;loud 30;");
        Check.due("notes that add", middle.compose(3, 0, 2), 65);
        Check.due("and one more", middle.compose(3, 0, 3), 67);
        Check.due("all", middle.compose(3, 0, 12), 4095);
    }

    /** "SNOW falls by a SHOUT (FOG 0) whose strength, as it comes to its cell .. is L or more" */
    private static void snowAtL() {
        for (int far = 1; far <= 4; far++) {
            String text = "valley 5 5;loud 30;snow " + far + " 0 ";
            int strength = 30 - far;
            Check.due("L of its strength, " + far, Check.valleyOf(text + strength + ";").snows(0, 0), 1);
            Check.due("L one more, " + far, Check.valleyOf(text + (strength + 1) + ";").snows(0, 0), 0);
            Check.due("L one less, " + far, Check.valleyOf(text + (strength - 1) + ";").snows(0, 0), 1);
        }
        Check.due("L 1, strength 1", Check.valleyOf("valley 3 2;loud 3;snow 2 0 1;").snows(0, 0), 1);
        Check.due("L 1, gone", Check.valleyOf("valley 3 2;loud 2;snow 2 0 1;").snows(0, 0), 0);
        Check.due("L 98, beside it", Check.valleyOf("valley 3 2;loud 99;snow 1 0 98;").snows(0, 0), 1);
        Check.due("L 99, beside it", Check.valleyOf("valley 3 2;loud 99;snow 1 0 99;").snows(0, 0), 0);
        Check.due("not on a way", Check.valleyOf("valley 3 2;loud 99;snow 2 1 1;").snows(0, 0), 0);
        Check.due("from X 1, Y 0", Check.valleyOf("valley 3 3;loud 3;snow 2 0 2;").snows(1, 0), 1);
        Check.due("from X 0, Y 1", Check.valleyOf("valley 3 3;loud 3;snow 2 0 2;").snows(0, 1), 0);
        Check.due("on X 2, Y 0", Check.valleyOf("valley 3 3;loud 3;snow 2 0 3;").snows(2, 0), 1);
        Check.due("on X 0, Y 2", Check.valleyOf("valley 3 3;loud 3;snow 2 0 3;").snows(0, 2), 0);
        SoldEchoes last = Check.valleyOf("valley 10 10;loud 3;snow 9 9 3;");
        Check.due("from the last cell", last.snows(9, 9), 1);
        Check.due("then from another one", last.snows(8, 8), 0);
        Check.due("behind a wood on its cell", Check.valleyOf("valley 3 2;loud 10;wood 1 0 4;snow 1 0 5;").snows(0, 0), 1);
        Check.due("behind it, one more", Check.valleyOf("valley 3 2;loud 10;wood 1 0 4;snow 1 0 6;").snows(0, 0), 0);
    }

    /** "(ahead of a FACE; also as an ECHO)" */
    private static void snowAheadOfAFace() {
        Check.due("on the face", Check.valleyOf("valley 3 2;loud 10;face 2 0 1;snow 2 0 8;").snows(0, 0), 1);
        Check.due("on the face, one more", Check.valleyOf("valley 3 2;loud 10;face 2 0 1;snow 2 0 9;").snows(0, 0), 0);
        Check.due("behind the face", Check.valleyOf("valley 4 2;loud 99;face 2 0 9;snow 3 0 1;").snows(0, 0), 0);
        Check.due("where it is gone at the face", Check.valleyOf("valley 3 2;loud 3;face 2 0 1;snow 2 0 1;").snows(0, 0), 1);
        // On a weaker way back nothing falls that did not fall on the way there.
        Check.due("on the way back", Check.valleyOf("valley 4 2;loud 20;face 3 0 9;snow 1 0 19;snow 2 0 19;").snows(0, 0), 1);
    }

    /** "on the cell itself, by S" */
    private static void snowOnTheCellItself() {
        for (int loud = 1; loud <= 99; loud += 49) {
            Check.due("L of S " + loud, Check.valleyOf("valley 2 2;loud " + loud + ";snow 1 1 " + loud + ";").snows(1, 1), 1);
        }
        Check.due("L one more than S", Check.valleyOf("valley 2 2;loud 98;snow 1 1 99;").snows(1, 1), 0);
        Check.due("20 without loud", Check.valleyOf("valley 2 2;snow 1 1 20;").snows(1, 1), 1);
        Check.due("20 without loud, not 21", Check.valleyOf("valley 2 2;snow 1 1 21;").snows(1, 1), 0);
        Check.due("its own wood and face do nothing",
            Check.valleyOf("valley 2 2;face 1 1 1;wood 1 1 9;snow 1 1 20;").snows(1, 1), 1);
    }

    private static void snowsByNumber() {
        StringBuilder text = new StringBuilder("valley 9 2;loud 50;");
        for (int i = 0; i < 8; i++) {
            text.append("snow ").append(i + 1).append(" 0 ").append(i % 2 == 0 ? 49 - i : 50 - i).append(";");
        }
        Check.due("every other one", Check.valleyOf(text.toString()).snows(0, 0), 0x55);
        Check.due("all eight", Check.valleyOf("valley 2 2;" + "snow 0 0 1;".repeat(8)).snows(0, 0), 255);
        Check.due("the eighth alone", Check.valleyOf("valley 2 2;" + "snow 0 0 99;".repeat(7) + "snow 1 0 1;").snows(0, 0), 128);
        Check.due("two on one cell", Check.valleyOf("valley 2 2;snow 0 0 21;snow 0 0 20;").snows(0, 0), 2);
        Check.due("no snows", Check.valleyOf("valley 2 2;").snows(0, 0), 0);
    }

    private static void snowWithoutFog() {
        SoldEchoes e = Check.valleyOf("valley 3 2;loud 10;season 9 1;wood 1 0 1;snow 2 0 7;");
        Check.due("in fog 0", e.snows(0, 0), 1);
        e.years(1);
        Check.due("a year later", e.snows(0, 0), 0);
        e.fell(1, 0);
        Check.due("the wood is felled", e.snows(0, 0), 1);
        e.build(1, 0);
        Check.due("a barn is in between", e.snows(0, 0), 0);
    }

    /** "SAFE are cells from which none falls" */
    private static void safeCells() {
        Check.due("without cells", new SoldEchoes().safe(), 0);
        Check.due("without snows", Check.valleyOf("valley 10 10;").safe(), 100);
        Check.due("none is safe", Check.valleyOf("valley 2 2;snow 0 0 19;").safe(), 0);
        Check.due("all but the cell itself", Check.valleyOf("valley 2 2;snow 0 0 20;").safe(), 3);
        Check.due("all", Check.valleyOf("valley 2 2;snow 0 0 21;").safe(), 4);
        Check.due("one of two falls", Check.valleyOf("valley 2 2;snow 0 0 20;snow 1 1 20;").safe(), 2);
    }

    /** "HUSH: the greatest S (1 to 99) by which none falls from a cell"; "0: not even 1" */
    private static void hushBounds() {
        int[] limits = {1, 2, 3, 50, 98, 99};
        for (int l : limits) {
            SoldEchoes e = Check.valleyOf("valley 4 2;snow 0 0 " + l + ";");
            Check.due("on the cell itself, L " + l, e.hush(0, 0), l - 1);
            Check.due("beside it, L " + l, e.hush(1, 0), l);
            Check.due("two off, L " + l, e.hush(2, 0), Math.min(99, l + 1));
            Check.due("three off, L " + l, e.hush(3, 0), Math.min(99, l + 2));
            Check.due("on no way, L " + l, e.hush(2, 1), 99);
        }
        Check.due("without snows", Check.valleyOf("valley 2 2;").hush(1, 1), 99);
        Check.due("the least of two", Check.valleyOf("valley 3 2;snow 0 0 50;snow 2 0 40;").hush(1, 0), 40);
        Check.due("the least of two, told first", Check.valleyOf("valley 3 2;snow 2 0 40;snow 0 0 50;").hush(1, 0), 40);
        Check.due("two on one cell", Check.valleyOf("valley 3 2;snow 0 0 50;snow 0 0 40;").hush(0, 0), 39);
        Check.due("behind a face", Check.valleyOf("valley 3 2;face 1 0 9;snow 2 0 1;").hush(0, 0), 99);
        Check.due("on a face", Check.valleyOf("valley 3 2;face 1 0 1;snow 1 0 7;").hush(0, 0), 7);
    }

    private static void hushIsNotTheValleysLoud() {
        for (String loud : new String[] {"", "loud 1;", "loud 99;"}) {
            Check.due("with " + loud, Check.valleyOf("valley 3 2;snow 2 0 30;" + loud).hush(0, 0), 31);
        }
        SoldEchoes e = Check.valleyOf("valley 3 2;snow 2 0 99;loud 7;face 1 1 9;");
        Check.due("hush", e.hush(0, 0), 99);
        Check.due("a shout is as loud as before", e.echo(0, 0, 0, 0, 1), 4);
    }
}
