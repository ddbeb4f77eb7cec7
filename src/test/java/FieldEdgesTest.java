/** Fields, barns, sites, seasons and laws, on both sides of every bound that the document names. */
public final class FieldEdgesTest {
    private static final int NONE = -1;
    private static final String RING = "face 0 0 9;face 1 0 9;face 2 0 9;face 0 1 9;face 2 1 9;face 0 2 9;face 1 2 9;face 2 2 9;";
    // From 0 0 one echo comes back: with 10 or more in fog 0 to 2, with less in fog 3 to 7; none in fog 8 and 9.
    private static final String ONE = "valley 2 2;face 1 0 9;loud 18;";
    // A barn on 1 0 sends one echo of strength 1 back to 0 0.
    private static final String LOT = "valley 4 2;loud 8;site 1 0 ";

    public static void main(String[] args) {
        mostIsTheFirst();
        leastIsTheFirst();
        allAlike();
        oneCellAndAllCells();
        meanInLeastTerms();
        worthFromNothingTo2376();
        worthByTheLawTold();
        barnOnlyWhereNoFaceIs();
        gainWhereThereIsAFace();
        gainWithoutFog();
        buildingWithoutSites();
        buildingOfN();
        buildingForTwentyFour();
        leastCostThenLeastBits();
        sitesThatHaveAFace();
        twoSitesOnOneCell();
        restsWithoutSitesOrFields();
        restsWhereAllIsAlike();
        nobodyHasMore();
        eachWhoChoseItPays();
        digitsOfTheFirstRest();
        restsOfSitesWithAFace();
        ownersWhoBuildApart();
        allRowsRest();
        noRowRests();
        fairWithoutSeasons();
        fairBySeasons();
        tradeThatNeverIsMore();
        tradeIsTheFirst();
        unlikePairs();
        deafFromOneTo99();
        Check.end("FieldEdgesTest");
    }

    private static void most(SoldEchoes e, int fog, int law, int... due) {
        for (int what = 0; what < 3; what++) {
            Check.due("most(0, " + fog + ", " + law + ", " + what + ")", e.most(0, fog, law, what), due[what]);
        }
    }

    private static void least(SoldEchoes e, int fog, int law, int... due) {
        for (int what = 0; what < 3; what++) {
            Check.due("least(0, " + fog + ", " + law + ", " + what + ")", e.least(0, fog, law, what), due[what]);
        }
    }

    private static void mean(SoldEchoes e, int fog, int law, int above, int below) {
        Check.due("mean above, fog " + fog + ", law " + law, e.mean(0, fog, law, 0), above);
        Check.due("mean below, fog " + fog + ", law " + law, e.mean(0, fog, law, 1), below);
    }

    /** "of alike ones the first (row by row, the least Y first)" */
    private static void mostIsTheFirst() {
        // The wood takes the echo of 0 0; 2 0 and the whole second row have one each.
        String text = "valley 3 2;face 1 0 9;wood 0 0 9;loud 5;field ";
        most(Check.valleyOf(text + "0 0 2 1 1;"), 0, 0, 1, 2, 0);
        most(Check.valleyOf(text + "0 0 1 1 1;"), 0, 0, 1, 0, 1);
        most(Check.valleyOf(text + "1 0 1 1 1;"), 0, 0, 1, 1, 1);
        most(Check.valleyOf(text + "0 1 2 1 1;"), 0, 0, 1, 0, 1);
        most(Check.valleyOf(text + "0 0 1 0 1;"), 0, 0, 0, 0, 0);
    }

    /** "LEAST the least likewise" */
    private static void leastIsTheFirst() {
        // None from 2 0 and 0 1, on which the faces are; two from each other cell.
        String text = "valley 3 2;face 2 0 9;face 0 1 9;field ";
        least(Check.valleyOf(text + "0 0 2 1 1;"), 0, 0, 0, 2, 0);
        least(Check.valleyOf(text + "0 0 1 1 1;"), 0, 0, 0, 0, 1);
        least(Check.valleyOf(text + "1 1 2 1 1;"), 0, 0, 2, 1, 1);
        least(Check.valleyOf(text + "0 0 1 0 1;"), 0, 0, 2, 0, 0);
    }

    private static void allAlike() {
        SoldEchoes e = Check.valleyOf("valley 4 3;field 1 1 3 2 9;");
        for (int law = 0; law <= 2; law++) {
            most(e, 0, law, 0, 1, 1);
            least(e, 9, law, 0, 1, 1);
            mean(e, 0, law, 0, 1);
        }
    }

    private static void oneCellAndAllCells() {
        SoldEchoes one = Check.valleyOf("valley 3 3;" + RING + "field 1 1 1 1 1;loud 99;");
        most(one, 0, 0, 24, 1, 1);
        least(one, 0, 0, 24, 1, 1);
        mean(one, 0, 0, 24, 1);
        SoldEchoes last = Check.valleyOf("valley 10 10;face 9 8 9;field 0 0 9 9 1;loud 4;");
        most(last, 0, 0, 1, 8, 7);
        least(last, 0, 0, 0, 0, 0);
        // One each from the five cells beside the face, of a hundred.
        mean(last, 0, 0, 1, 20);
        SoldEchoes corner = Check.valleyOf("valley 10 10;face 9 8 9;field 9 9 9 9 1;loud 4;");
        most(corner, 0, 0, 1, 9, 9);
        mean(corner, 0, 0, 1, 1);
    }

    /** "MEAN: above (what 0), below (1), in least terms" */
    private static void meanInLeastTerms() {
        String face = "valley 3 3;loud 4;face 0 0 9;field ";
        mean(Check.valleyOf(face + "1 0 2 0 1;"), 0, 0, 1, 2);
        mean(Check.valleyOf(face + "1 0 2 1 1;"), 0, 0, 1, 2);
        mean(Check.valleyOf(face + "0 0 2 0 1;"), 0, 0, 1, 3);
        mean(Check.valleyOf(face + "0 0 2 1 1;"), 0, 0, 1, 2);
        mean(Check.valleyOf(face + "0 0 1 1 1;"), 0, 0, 3, 4);
        mean(Check.valleyOf(face + "0 0 2 2 1;"), 0, 0, 1, 3);
        mean(Check.valleyOf(face + "2 0 2 2 1;"), 0, 0, 0, 1);
        mean(Check.valleyOf("valley 3 2;face 0 0 9;face 2 0 9;field 0 0 1 0 1;"), 0, 0, 7, 2);
    }

    /** "WORTH: P times MOST": the least and the greatest there can be. */
    private static void worthFromNothingTo2376() {
        SoldEchoes e = Check.valleyOf("valley 3 3;" + RING + "field 1 1 1 1 99;field 1 1 1 1 1;loud 99;field 0 0 0 0 99;");
        Check.due("99 times 24", e.worth(0, 0), 2376);
        Check.due("1 times 24", e.worth(1, 0), 24);
        Check.due("in fog 9", e.worth(0, 9), 99 * 24);
        Check.due("of nothing", Check.valleyOf("valley 2 2;field 0 0 1 1 99;").worth(0, 0), 0);
    }

    private static void worthByTheLawTold() {
        int[] due = {24, 3, 3};
        for (int law = 0; law <= 2; law++) {
            String text = "valley 3 3;" + RING + "field 1 1 1 1 2;loud 99;law " + law + ";";
            Check.due("by law " + law, Check.valleyOf(text).worth(0, 0), 2 * due[law]);
        }
        String text = ONE + "field 0 0 0 0 7;law 2;loud ";
        Check.due("strength 10", Check.valleyOf(text + "13;").worth(0, 0), 7);
        Check.due("strength 9", Check.valleyOf(text + "12;").worth(0, 0), 0);
        Check.due("of a cell with one echo and one with none", Check.valleyOf(ONE + "field 0 0 1 0 7;").worth(0, 0), 7);
    }

    /** "A BARN is a FACE, HARD 5, built on a cell that has none"; "1; 0: there is a FACE" */
    private static void barnOnlyWhereNoFaceIs() {
        SoldEchoes e = Check.valleyOf("valley 2 2;face 0 0 1;face 1 0 9;face 0 1 5;wood 1 1 4;");
        Check.due("on hard 1", e.build(0, 0), 0);
        Check.due("on hard 9", e.build(1, 0), 0);
        Check.due("on hard 5", e.build(0, 1), 0);
        Check.due("on none, in a wood", e.build(1, 1), 1);
        Check.due("on a barn", e.build(1, 1), 0);
        int[] hard = {1, 9, 5, 5};
        for (int cell = 0; cell < 4; cell++) {
            Check.due("hard of " + cell, e.cell(cell % 2, cell / 2, 0), hard[cell]);
        }
        Check.due("the wood stays", e.cell(1, 1, 1), 4);
        Check.due("felled", e.fell(1, 1), 4);
        Check.due("felled where none is", e.fell(1, 1), 0);
        Check.due("the barn stays", e.cell(1, 1, 0), 5);
        // 1 step, 5 by the barn, 1 step.
        SoldEchoes heard = Check.valleyOf("valley 2 2;loud 8;");
        heard.build(1, 0);
        Check.due("a barn's echo", heard.echo(0, 0, 0, 0, 1), 1);
        SoldEchoes gone = Check.valleyOf("valley 2 2;loud 7;");
        gone.build(1, 0);
        Check.due("no echo", gone.echoes(0, 0, 0), 0);
    }

    /** "GAIN (0, where there is a FACE)" */
    private static void gainWhereThereIsAFace() {
        SoldEchoes e = Check.valleyOf("valley 3 2;face 1 0 1;loud 11;field 0 0 0 0 6;");
        Check.due("now nothing comes", e.worth(0, 0), 0);
        Check.due("a barn instead of the face would gain, but can't be", e.gain(1, 0, 0), 0);
        Check.due("the face stays", e.cell(1, 0, 0), 1);
        Check.due("a barn where none is", e.gain(0, 1, 0), 6);
        Check.due("it does not stay", e.cell(0, 1, 0), 0);
        e.build(0, 1);
        Check.due("where there is a barn", e.gain(0, 1, 0), 0);
        Check.due("the barn stays", e.cell(0, 1, 0), 5);
        Check.due("where it does nothing", e.gain(2, 1, 0), 0);
        Check.due("on the cell itself", e.gain(0, 0, 0), 0);
        Check.due("a diagonal one more", e.gain(1, 1, 0), 6);
        // A barn's echo: 1 step, 5, 1 step.
        Check.due("loud enough for hard 5", Check.valleyOf("valley 2 2;loud 8;field 0 0 0 0 6;").gain(1, 0, 0), 6);
        Check.due("too soft for hard 5", Check.valleyOf("valley 2 2;loud 7;field 0 0 0 0 6;").gain(1, 0, 0), 0);
        Check.due("a field in which one cell hears it", Check.valleyOf("valley 5 2;loud 8;field 0 0 4 0 6;").gain(1, 1, 0), 6);
    }

    private static void gainWithoutFog() {
        SoldEchoes e = Check.valleyOf("valley 4 2;loud 11;season 9 1;field 0 0 0 0 6;face 3 0 9;law 2;");
        Check.due("less by a barn in between", Check.valleyOf("valley 4 2;loud 8;field 0 0 0 0 99;face 3 0 9;").gain(2, 0, 0), -99);
        Check.due("no less, for no strong one comes", e.gain(2, 0, 0), 0);
        Check.due("in fog 0: by law 2 too weak", e.gain(1, 0, 0), 0);
        SoldEchoes strong = Check.valleyOf("valley 4 2;loud 17;season 9 1;field 0 0 0 0 6;law 2;");
        Check.due("in fog 0: by law 2 strong", strong.gain(1, 0, 0), 6);
    }

    private static void building(SoldEchoes e, int n, int cost, int bits) {
        Check.due("building(0, " + n + ", 0)", e.building(0, n, 0), cost);
        Check.due("building(0, " + n + ", 1)", e.building(0, n, 1), bits);
    }

    /** "no SITES": the set without any does, or none does. */
    private static void buildingWithoutSites() {
        SoldEchoes e = Check.valleyOf(ONE + "field 0 0 0 0 1;");
        building(e, 0, 0, 0);
        building(e, 1, 0, 0);
        building(e, 2, NONE, NONE);
        building(e, 24, NONE, NONE);
    }

    /** "by which MOST is n or more" */
    private static void buildingOfN() {
        SoldEchoes e = Check.valleyOf("valley 3 3;site 1 0 7;field 1 1 1 1 1;");
        building(e, 0, 0, 0);
        building(e, 1, 7, 1);
        building(e, 2, NONE, NONE);
        // Two that are opposite make four at once: 2 and 3 are had by 4.
        SoldEchoes two = Check.valleyOf("valley 3 3;site 1 0 7;site 1 2 99;field 1 1 1 1 1;");
        building(two, 1, 7, 1);
        building(two, 2, 106, 3);
        building(two, 4, 106, 3);
        building(two, 5, NONE, NONE);
        SoldEchoes none = Check.valleyOf("valley 3 3;site 1 0 7;site 1 2 99;field 1 1 1 1 1;loud 7;");
        building(none, 0, 0, 0);
        building(none, 1, NONE, NONE);
        // The most of all cells, of which some hear nothing; by the law told, both come at one time.
        building(Check.valleyOf("valley 3 3;site 1 0 7;site 0 1 5;field 0 0 2 2 1;loud 8;"), 2, 12, 3);
        building(Check.valleyOf("valley 3 3;site 1 0 7;site 0 1 5;field 0 0 2 2 1;loud 8;law 1;"), 1, 5, 2);
        building(Check.valleyOf("valley 3 3;site 1 0 7;site 0 1 5;field 0 0 2 2 1;loud 8;law 1;"), 2, NONE, NONE);
    }

    private static void buildingForTwentyFour() {
        SoldEchoes e = Check.valleyOf("valley 3 3;face 0 0 9;face 1 0 9;face 2 0 9;face 0 1 9;loud 99;field 1 1 1 1 1;"
            + "site 2 1 99;site 0 2 99;site 1 2 99;site 2 2 99;");
        building(e, 4, 0, 0);
        // One barn opposite to one of four faces: 3 and 3 that way, and 3 more.
        building(e, 9, 99, 1);
        building(e, 14, 198, 3);
        building(e, 19, 297, 7);
        building(e, 20, 396, 15);
        building(e, 24, 396, 15);
        Check.due("nothing was built", e.echoes(1, 1, 0), 4);
    }

    /** "that of the least cost, of these the least (bits)" */
    private static void leastCostThenLeastBits() {
        String start = "valley 3 3;field 1 1 1 1 1;site 1 0 ";
        building(Check.valleyOf(start + "3;site 0 1 3;"), 1, 3, 1);
        building(Check.valleyOf(start + "4;site 0 1 3;"), 1, 3, 2);
        building(Check.valleyOf(start + "3;site 0 1 4;"), 1, 3, 1);
        // The two cheap ones cost as much as the dear one alone, and are less as bits.
        building(Check.valleyOf(start + "0;site 0 1 0;site 0 0 0;site 2 0 0;"), 2, 0, 3);
        building(Check.valleyOf(start + "0;"), 0, 0, 0);
        building(Check.valleyOf("valley 3 3;face 1 0 9;field 1 1 1 1 1;site 0 1 3;site 0 0 3;site 1 2 6;"), 3, 6, 3);
        building(Check.valleyOf("valley 3 3;face 1 0 9;field 1 1 1 1 1;site 0 1 3;site 0 0 4;site 1 2 6;"), 3, 6, 4);
    }

    /** "(those that have no FACE; BARNS on all of a set)" */
    private static void sitesThatHaveAFace() {
        SoldEchoes e = Check.valleyOf("valley 3 3;field 1 1 1 1 1;face 1 0 1;loud 8;site 1 0 1;site 0 1 5;");
        building(e, 1, 5, 2);
        building(e, 2, NONE, NONE);
        e.build(0, 1);
        building(e, 1, 0, 0);
        building(e, 2, NONE, NONE);
    }

    private static void twoSitesOnOneCell() {
        SoldEchoes e = Check.valleyOf("valley 3 3;field 1 1 1 1 1;site 1 0 5;site 1 0 2;");
        building(e, 1, 2, 2);
        building(e, 2, NONE, NONE);
        Check.due("no barn is left", e.cell(1, 0, 0), 0);
    }

    private static void rests(String text, int many, int first) {
        SoldEchoes e = Check.valleyOf(text);
        Check.due("rests(0) of " + text, e.rests(0), many);
        Check.due("rests(1) of " + text, e.rests(1), first);
    }

    private static void restsWithoutSitesOrFields() {
        Check.due("without cells", new SoldEchoes().rests(0), 1);
        Check.due("without cells, the first", new SoldEchoes().rests(1), 0);
        rests("valley 2 2;", 1, 0);
        rests("valley 2 2;site 0 0 1;site 1 0 0;", 1, 0);
        rests("valley 2 2;field 0 0 1 1 9;", 1, 0);
        rests("valley 2 2;" + "field 0 0 1 1 9;".repeat(5), 1, 0);
    }

    /** A barn that costs nothing and does nothing: to choose it or not is alike. */
    private static void restsWhereAllIsAlike() {
        rests("valley 4 2;loud 1;site 1 0 0;field 0 0 0 0 5;", 2, 0);
        rests("valley 4 2;loud 1;site 1 0 1;field 0 0 0 0 5;", 1, 0);
    }

    /** "nobody has more .. by another choice": as much is not more. */
    private static void nobodyHasMore() {
        rests(LOT + "5;field 0 0 0 0 5;", 2, 0);
        rests(LOT + "4;field 0 0 0 0 5;", 1, 1);
        rests(LOT + "6;field 0 0 0 0 5;", 1, 0);
        rests(LOT + "99;field 0 0 0 0 99;", 2, 0);
        rests(LOT + "98;field 0 0 0 0 99;", 1, 1);
    }

    /** "on one SITE there is one BARN, each who chose it pays" */
    private static void eachWhoChoseItPays() {
        String two = "field 0 0 0 0 5;field 0 0 0 0 5;";
        rests(LOT + "3;" + two, 2, 1);
        rests(LOT + "0;" + two, 3, 1);
        rests(LOT + "5;" + two, 3, 0);
        rests(LOT + "6;" + two, 1, 0);
    }

    /** "(as digits to the base 10, the first FIELD's the highest: 0 none, else 1 more than the SITE)" */
    private static void digitsOfTheFirstRest() {
        String bare = "field 3 1 3 1 1;";
        String gains = "field 0 0 0 0 5;";
        rests(LOT + "4;" + gains + bare.repeat(4), 1, 10000);
        rests(LOT + "4;" + bare + gains + bare.repeat(3), 1, 1000);
        rests(LOT + "4;" + bare.repeat(4) + gains, 1, 1);
        String four = "valley 4 2;loud 10;face 3 0 1;face 3 1 1;site 3 0 0;site 3 1 0;site 1 1 9;site 1 0 4;";
        rests(four + gains, 1, 4);
        rests(four + gains + bare.repeat(4), 1, 40000);
        rests(four + bare.repeat(4) + gains, 1, 4);
    }

    private static void restsOfSitesWithAFace() {
        SoldEchoes e = Check.valleyOf(LOT + "0;field 0 0 0 0 5;");
        Check.due("for nothing it is built", e.rests(1), 1);
        e.build(1, 0);
        Check.due("where there is a barn nobody chooses it", e.rests(0), 1);
        Check.due("and the first is none", e.rests(1), 0);
    }

    private static void ownersWhoBuildApart() {
        String apart = LOT + "4;site 2 1 4;";
        rests(apart + "field 0 0 0 0 5;field 3 1 3 1 5;", 1, 12);
        rests(apart + "field 3 1 3 1 5;field 0 0 0 0 5;", 1, 21);
        rests(apart + "field 0 0 0 0 5;field 3 1 3 1 3;", 1, 10);
        // What the field is worth without a barn counts: 14 less 8 is no more than 7, 14 less 6 is.
        rests(ONE + "field 0 0 0 0 7;site 1 1 8;", 1, 0);
        rests(ONE + "field 0 0 0 0 7;site 1 1 7;", 2, 0);
        rests(ONE + "field 0 0 0 0 7;site 1 1 6;", 1, 1);
        // The most of all cells counts, by the law told.
        rests(LOT + "4;field 0 0 1 0 5;", 1, 1);
        rests(LOT + "4;field 0 0 0 0 5;law 1;", 1, 1);
        rests(LOT + "4;field 0 0 0 0 5;law 2;", 1, 0);
        // Two sites on one cell are two to choose: on both there is one barn.
        rests(LOT + "0;site 1 0 0;field 0 0 0 0 5;field 0 0 0 0 5;", 8, 1);
        rests(LOT + "4;site 1 0 4;field 0 0 0 0 5;field 0 0 0 0 5;", 4, 1);
    }

    private static void allRowsRest() {
        String text = "valley 4 2;loud 1;site 0 0 0;site 1 0 0;site 2 0 0;site 3 0 0;" + "field 0 0 3 1 9;".repeat(5);
        rests(text, 3125, 0);
        rests("valley 4 2;loud 1;site 0 0 0;site 1 0 0;site 2 0 0;site 3 0 1;" + "field 0 0 3 1 9;".repeat(5), 1024, 0);
        rests("valley 4 2;loud 1;site 0 0 1;site 1 0 1;site 2 0 1;site 3 0 1;" + "field 0 0 3 1 9;".repeat(5), 1, 0);
    }

    /** "0 how many, 1 the first (NONE)": what one owner would have, the other one would not. */
    private static void noRowRests() {
        rests("valley 4 2;loud 23;face 3 1 8;site 1 0 2;site 3 0 2;field 2 0 2 0 1;field 0 0 0 0 3;", 0, NONE);
        SoldEchoes e = Check.valleyOf(LOT + "4;field 0 0 0 0 5;");
        Check.due("a rest", e.rests(1), 1);
        Check.tell(e, "valley 4 2;loud 23;face 3 1 8;site 1 0 2;site 3 0 2;field 2 0 2 0 1;field 0 0 0 0 3;");
        Check.due("no rest then", e.rests(1), NONE);
        Check.due("no barn is left", e.cell(1, 0, 0) + e.cell(3, 0, 0), 0);
    }

    private static void fair(String text, int above, int below) {
        SoldEchoes e = Check.valleyOf(text);
        Check.due("fair(0, 0) of " + text, e.fair(0, 0), above);
        Check.due("fair(0, 1) of " + text, e.fair(0, 1), below);
    }

    /** "without SEASONS: WORTH at FOG 0" */
    private static void fairWithoutSeasons() {
        fair(ONE + "field 0 0 0 0 7;", 7, 1);
        fair(ONE + "field 1 1 1 1 7;loud 3;", 0, 1);
        fair(ONE + "field 1 1 1 1 7;loud 4;", 7, 1);
        fair(ONE + "field 1 1 1 1 7;loud 12;law 2;", 0, 1);
        fair(ONE + "field 1 1 1 1 7;loud 13;law 2;", 7, 1);
        fair("valley 3 3;" + RING + "field 1 1 1 1 99;loud 99;", 2376, 1);
    }

    /** "of all SEASONS WORTH times odds, by all odds (as a fraction" */
    private static void fairBySeasons() {
        String field = ONE + "field 0 0 0 0 7;";
        fair(field + "season 0 9;", 7, 1);
        fair(field + "season 7 9;", 7, 1);
        fair(field + "season 8 9;", 0, 1);
        fair(field + "season 9 1;season 8 9;", 0, 1);
        fair(field + "season 7 1;season 8 1;", 7, 2);
        fair(field + "season 7 9;season 8 9;", 7, 2);
        fair(field + "season 7 1;season 8 6;", 1, 1);
        fair(field + "season 7 2;season 8 9;", 14, 11);
        fair(field + "season 0 9;season 0 9;season 0 9;season 9 8;", 27, 5);
        fair(field + "season 9 9;season 9 9;season 9 9;season 0 9;", 7, 4);
        // By the law told: strength 11 in fog 2, 9 in fog 3.
        fair(field + "law 2;season 2 1;season 3 1;", 7, 2);
    }

    private static void trade(String text, int more, int pair) {
        SoldEchoes e = Check.valleyOf(text);
        Check.due("trade(0, 0) of " + text, e.trade(0, 0), more);
        Check.due("trade(0, 1) of " + text, e.trade(0, 1), pair);
    }

    /** "(NONE: it never is more; then 0 is 0)" */
    private static void tradeThatNeverIsMore() {
        String field = ONE + "field 0 0 0 0 7;";
        trade(field, 0, NONE);
        trade(field + "season 0 1;", 0, NONE);
        trade(field + "season 9 1;", 0, NONE);
        trade(field + "season 0 1;season 7 1;", 0, NONE);
        trade(field + "season 8 1;season 9 9;", 0, NONE);
        trade(field + "season 7 1;season 8 1;", 7, 10);
        trade(field + "season 8 1;season 7 1;", 7, 1);
        trade(ONE + "field 0 0 0 0 1;season 8 1;season 7 1;", 1, 1);
        // By the law told: strength 11 in fog 2, 9 in fog 3.
        trade(field + "season 3 1;season 2 1;", 0, NONE);
        trade(field + "season 3 1;season 2 1;law 2;", 7, 1);
        // What other fields are worth by laws, asked before, is no season.
        SoldEchoes e = Check.valleyOf(field + "season 0 1;field 0 0 0 0 8;field 0 0 0 0 9;field 0 0 0 0 10;field 0 0 0 0 11;");
        Check.due("by laws", e.unlike(0, 1), 0);
        Check.due("one season", e.trade(0, 1), NONE);
    }

    /** "the most by which WORTH is more; of these the first (bought, then sold)" */
    private static void tradeIsTheFirst() {
        String field = ONE + "field 0 0 0 0 7;";
        trade(field + "season 9 1;season 0 1;season 9 1;season 0 1;", 7, 1);
        trade(field + "season 0 1;season 9 1;season 9 1;season 0 1;", 7, 10);
        trade(field + "season 0 1;season 0 1;season 9 1;season 0 1;", 7, 20);
        trade(field + "season 0 1;season 0 1;season 0 1;season 9 1;", 7, 30);
        trade(field + "season 9 1;season 9 1;season 9 1;season 0 1;", 7, 3);
        trade(field + "season 9 1;season 9 1;season 0 1;season 9 1;", 7, 2);
        // Worth 4, 2 and 0 in fog 0, 1 and 9: the most, not the first that is more.
        String steps = "valley 3 2;face 0 0 9;face 2 0 9;loud 8;field 1 0 1 0 1;";
        trade(steps + "season 1 1;season 0 1;season 9 1;", 4, 21);
        trade(steps + "season 9 1;season 1 1;season 0 1;", 4, 2);
        trade(steps + "season 9 1;season 1 1;", 2, 1);
    }

    /** "pairs of FIELDS of which one is worth more by one LAW, and not by the other one" */
    private static void unlikePairs() {
        Check.due("without cells", new SoldEchoes().unlike(0, 2), 0);
        Check.due("one field has no pair", Check.valleyOf(ONE + "field 0 0 0 0 7;").unlike(0, 1), 0);
        // One weak echo each: by laws 0 and 1 worth the price, by law 2 nothing.
        String weak = "valley 2 2;face 1 0 9;loud 5;";
        SoldEchoes two = Check.valleyOf(weak + "field 0 0 0 0 7;field 0 0 0 0 8;");
        Check.due("more by one, as much by the other", two.unlike(0, 2), 1);
        Check.due("as much by one, more by the other", two.unlike(2, 0), 1);
        Check.due("more by both", two.unlike(0, 1), 0);
        Check.due("as much by both", Check.valleyOf(weak + "field 0 0 0 0 7;field 0 0 0 0 7;").unlike(0, 2), 0);
        SoldEchoes five = Check.valleyOf(weak + "field 0 0 0 0 1;field 0 0 0 0 2;field 0 0 0 0 3;field 0 0 0 0 4;field 0 0 0 0 5;");
        Check.due("ten pairs", five.unlike(0, 2), 10);
        Check.due("ten pairs, the other way round", five.unlike(2, 1), 10);
        for (int law = 0; law <= 2; law++) {
            Check.due("a law and itself", five.unlike(law, law), 0);
        }
        // From 1 0 four echoes at two times, from 1 1 two at one, from 0 0 one: at prices 2 and 3 it turns round.
        SoldEchoes turned = Check.valleyOf("valley 3 2;face 0 0 9;face 2 0 9;loud 8;field 1 0 1 0 2;field 0 0 0 0 5;law 2;");
        Check.due("8 and 5, 4 and 5", turned.unlike(0, 1), 1);
        Check.due("8 and 5, 2 and 0", turned.unlike(0, 2), 0);
        Check.due("4 and 5, 2 and 0", turned.unlike(1, 2), 1);
    }

    /** "A DEAF buyer counts those ECHOES alone that have strength D or more" */
    private static void deafFromOneTo99() {
        SoldEchoes e = Check.valleyOf("valley 3 2;face 0 0 9;face 2 0 9;loud 10;field 1 0 1 0 9;law 2;season 9 1;");
        // Two echoes each of strength 7, 4 and 1.
        int[] due = {6, 4, 4, 4, 2, 2, 2, 0, 0};
        for (int d = 1; d <= due.length; d++) {
            Check.due("deaf(0, " + d + ")", e.deaf(0, d), due[d - 1]);
        }
        SoldEchoes loud = Check.valleyOf(ONE + "loud 99;field 0 0 1 1 1;");
        Check.due("strength 96", loud.deaf(0, 96), 1);
        Check.due("strength 97", loud.deaf(0, 97), 0);
        Check.due("strength 99", loud.deaf(0, 99), 0);
        // Two weak ones at 1 0; at 3 0 a strong one and a weak one.
        SoldEchoes cells = Check.valleyOf("valley 5 2;face 0 0 1;face 2 0 1;face 4 0 9;loud 12;field 1 0 3 0 1;");
        Check.due("all", cells.deaf(0, 1), 2);
        Check.due("the strong one", cells.deaf(0, 9), 1);
        Check.due("none", cells.deaf(0, 10), 0);
        // Only the cells of the field count: the eight beside the face, and none of the others, hear strength 1.
        String beside = "valley 7 7;face 3 2 9;loud 4;field ";
        Check.due("ends above it", Check.valleyOf(beside + "0 0 6 0 1;").deaf(0, 1), 0);
        Check.due("reaches it from above", Check.valleyOf(beside + "0 0 6 1 1;").deaf(0, 1), 1);
        Check.due("begins below it", Check.valleyOf(beside + "0 4 6 6 1;").deaf(0, 1), 0);
        Check.due("reaches it from below", Check.valleyOf(beside + "0 3 6 6 1;").deaf(0, 1), 1);
        Check.due("ends left of it", Check.valleyOf(beside + "0 0 1 6 1;").deaf(0, 1), 0);
        Check.due("reaches it from the left", Check.valleyOf(beside + "0 0 2 6 1;").deaf(0, 1), 1);
        Check.due("begins right of it", Check.valleyOf(beside + "5 0 6 6 1;").deaf(0, 1), 0);
        Check.due("reaches it from the right", Check.valleyOf(beside + "4 0 6 6 1;").deaf(0, 1), 1);
    }
}
