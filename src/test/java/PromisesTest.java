/** Each promise by itself, with answers worked out by hand from the document. */
public final class PromisesTest {
    private static final int BAD_ARG = -1;
    private static final int NONE = -4;
    private static final int[] NO_SLOTS = {-1, 3, Integer.MIN_VALUE, Integer.MAX_VALUE};
    private static final int[] NO_ENDS = {-1, 8, Integer.MIN_VALUE, Integer.MAX_VALUE};

    private static final Check CHECK = new Check();

    public static void main(String[] args) {
        promise1NewObject();
        promise2Join();
        promise3Cut();
        promise4Cross();
        promise5Shift();
        promise6Copy();
        promise7Partner();
        promise8Joints();
        promise9Chromosomes();
        promise10Round();
        promise11Distance();
        promise12Nearer();
        promise13Steps();
        promise14Approach();
        promise15Middle();
        promise16Middles();
        promise17OnTheWay();
        promise18Order();
        termsSlotComesFirst();
        objectsAreApart();
        CHECK.end();
    }

    private static void promise1NewObject() {
        GenomeJoins x = new GenomeJoins();
        for (int s = 0; s < 3; s++) {
            CHECK.due("1: joints(" + s + ")", x.joints(s), 0);
            CHECK.dueGenome("1: a new object", x, s, "........");
        }
    }

    private static void promise2Join() {
        GenomeJoins x = new GenomeJoins();
        CHECK.due("2: the first joint", x.join(1, 7, 0), 1);
        CHECK.due("2: both ends of one gene", x.join(1, 2, 3), 2);
        CHECK.dueGenome("2: two joints", x, 1, "7.32...0");
        CHECK.dueGenome("2: another slot", x, 0, "........");
        CHECK.dueGenome("2: another slot", x, 2, "........");
        CHECK.due("2: a not loose", x.join(1, 7, 1), NONE);
        CHECK.due("2: b not loose", x.join(1, 1, 7), NONE);
        CHECK.due("2: both not loose", x.join(1, 7, 2), NONE);
        CHECK.due("2: a joint that is there", x.join(1, 0, 7), NONE);
        CHECK.due("2: the same loose end", x.join(1, 1, 1), BAD_ARG);
        CHECK.due("2: the same joined end", x.join(1, 7, 7), BAD_ARG);
        for (int no : NO_ENDS) {
            CHECK.due("2: a = " + no, x.join(1, no, 1), BAD_ARG);
            CHECK.due("2: b = " + no, x.join(1, 1, no), BAD_ARG);
            CHECK.due("2: both " + no, x.join(1, no, no), BAD_ARG);
        }
        CHECK.dueGenome("2: after refusals", x, 1, "7.32...0");
        CHECK.due("2: the third joint", x.join(1, 6, 1), 3);
        CHECK.due("2: the fourth joint", x.join(1, 4, 5), 4);
        CHECK.dueGenome("2: four joints", x, 1, "76325410");
    }

    private static void promise3Cut() {
        GenomeJoins x = Slots.with("", "", "07 12 34 56");
        CHECK.due("3: at the greater end", x.cut(2, 7), 0);
        CHECK.due("3: at the lesser end", x.cut(2, 1), 2);
        CHECK.dueGenome("3: two cuts", x, 2, "...4365.");
        CHECK.due("3: a loose end", x.cut(2, 7), NONE);
        CHECK.due("3: the other loose end", x.cut(2, 0), NONE);
        CHECK.due("3: a slot with no joint", x.cut(0, 3), NONE);
        for (int no : NO_ENDS) {
            CHECK.due("3: a = " + no, x.cut(2, no), BAD_ARG);
        }
        CHECK.dueGenome("3: after refusals", x, 2, "...4365.");
    }

    private static void promise4Cross() {
        GenomeJoins x = Slots.with("01 23 45", "", "");
        CHECK.due("4: 01 and 23 as 0 and 2", x.cross(0, 0, 2), 0);
        CHECK.dueGenome("4: 02 and 13", x, 0, "230154..");
        CHECK.due("4: 02 and 45 as 2 and 4", x.cross(0, 2, 4), 0);
        CHECK.dueGenome("4: 24 and 05", x, 0, "534120..");
        CHECK.due("4: a loose", x.cross(0, 6, 0), NONE);
        CHECK.due("4: c loose", x.cross(0, 0, 6), NONE);
        CHECK.due("4: both loose", x.cross(0, 6, 7), NONE);
        CHECK.due("4: the same loose end", x.cross(0, 6, 6), NONE);
        CHECK.due("4: both ends of a joint", x.cross(0, 0, 5), NONE);
        CHECK.due("4: both ends, the other way", x.cross(0, 5, 0), NONE);
        CHECK.due("4: the same end", x.cross(0, 0, 0), NONE);
        for (int no : NO_ENDS) {
            CHECK.due("4: a = " + no, x.cross(0, no, 0), BAD_ARG);
            CHECK.due("4: c = " + no, x.cross(0, 0, no), BAD_ARG);
            CHECK.due("4: both " + no, x.cross(0, no, no), BAD_ARG);
        }
        CHECK.dueGenome("4: after refusals", x, 0, "534120..");
    }

    private static void promise5Shift() {
        GenomeJoins x = Slots.with("", "03 12", "");
        CHECK.due("5: 03 to 05", x.shift(1, 0, 5), 3);
        CHECK.dueGenome("5: 05", x, 1, "521..0..");
        CHECK.due("5: 05 to 53", x.shift(1, 5, 3), 0);
        CHECK.dueGenome("5: 53", x, 1, ".215.3..");
        CHECK.due("5: a loose", x.shift(1, 0, 4), NONE);
        CHECK.due("5: c not loose", x.shift(1, 1, 3), NONE);
        CHECK.due("5: a loose and c not", x.shift(1, 0, 1), NONE);
        CHECK.due("5: both ends of a joint", x.shift(1, 1, 2), NONE);
        CHECK.due("5: the same joined end", x.shift(1, 1, 1), NONE);
        CHECK.due("5: the same loose end", x.shift(1, 0, 0), NONE);
        for (int no : NO_ENDS) {
            CHECK.due("5: a = " + no, x.shift(1, no, 0), BAD_ARG);
            CHECK.due("5: c = " + no, x.shift(1, 1, no), BAD_ARG);
        }
        CHECK.dueGenome("5: after refusals", x, 1, ".215.3..");
    }

    private static void promise6Copy() {
        GenomeJoins x = Slots.with("01 23 45", "07", "02 13");
        CHECK.due("6: copy(1, 0)", x.copy(1, 0), 3);
        CHECK.dueGenome("6: copy(1, 0)", x, 1, "103254..");
        CHECK.dueGenome("6: the one copied from", x, 0, "103254..");
        CHECK.dueGenome("6: the third", x, 2, "2301....");
        x.cut(1, 0);
        CHECK.dueGenome("6: the one copied from, when the copy changes", x, 0, "103254..");
        CHECK.due("6: a slot into itself", x.copy(2, 2), 2);
        CHECK.dueGenome("6: a slot into itself", x, 2, "2301....");
        for (int no : NO_SLOTS) {
            CHECK.due("6: r = " + no, x.copy(2, no), BAD_ARG);
        }
        CHECK.dueGenome("6: after refusals", x, 2, "2301....");
        x = Slots.with("01", "", "");
        CHECK.due("6: a genome with no joint", x.copy(0, 1), 0);
        CHECK.dueGenome("6: a genome with no joint", x, 0, "........");
    }

    private static void promise7Partner() {
        GenomeJoins x = Slots.with("", "", "16");
        CHECK.due("7: of the lesser end", x.partner(2, 1), 6);
        CHECK.due("7: of the greater end", x.partner(2, 6), 1);
        CHECK.due("7: of a loose end", x.partner(2, 0), NONE);
        CHECK.due("7: in another slot", x.partner(1, 1), NONE);
        for (int no : NO_ENDS) {
            CHECK.due("7: a = " + no, x.partner(2, no), NONE);
        }
    }

    private static void promise8Joints() {
        GenomeJoins x = Slots.with("", "37", "01 23 45 67");
        CHECK.due("8: none", x.joints(0), 0);
        CHECK.due("8: one", x.joints(1), 1);
        CHECK.due("8: all four", x.joints(2), 4);
        x.cross(2, 0, 2);
        CHECK.due("8: after cross", x.joints(2), 4);
        x.cut(2, 4);
        CHECK.due("8: after cut", x.joints(2), 3);
        x.shift(2, 6, 4);
        CHECK.due("8: after shift", x.joints(2), 3);
    }

    private static void promise9Chromosomes() {
        GenomeJoins x = Slots.with("", "01 23 45 67", "12 34 56 70");
        CHECK.due("9: no joint", x.chromosomes(0), 4);
        CHECK.due("9: each gene joined to itself", x.chromosomes(1), 4);
        CHECK.due("9: all in a ring", x.chromosomes(2), 1);
        x = Slots.with("06 14", "02 46", "02 13");
        CHECK.due("9: 2, 0 and 3 in a row, and 1", x.chromosomes(0), 2);
        CHECK.due("9: two pairs", x.chromosomes(1), 2);
        CHECK.due("9: a pair joined twice, 2 and 3", x.chromosomes(2), 3);
        x = Slots.with("06 75 42", "", "");
        CHECK.due("9: 0, 3, 2, 1 in a row", x.chromosomes(0), 1);
    }

    private static void promise10Round() {
        GenomeJoins x = Slots.with("", "01 23 45 67", "12 34 56 70");
        CHECK.due("10: no joint", x.round(0), 0);
        CHECK.due("10: each gene joined to itself", x.round(1), 4);
        CHECK.due("10: all in a ring", x.round(2), 1);
        x = Slots.with("06 14 75", "02 13 46", "12 34 56");
        CHECK.due("10: 0, 2 and 3 in a ring, 1 straight", x.round(0), 1);
        CHECK.due("10: 0 and 1 in a ring, 2 and 3 in a row", x.round(1), 1);
        CHECK.due("10: all in a row", x.round(2), 0);
        x = Slots.with("02 13 46 57", "67", "");
        CHECK.due("10: two rings", x.round(0), 2);
        CHECK.due("10: one gene joined to itself", x.round(1), 1);
    }

    private static void promise11Distance() {
        GenomeJoins x = Slots.with("01 23", "01 23", "02 13");
        CHECK.due("11: the same genomes", x.distance(0, 1), 0);
        CHECK.due("11: the same slot", x.distance(0, 0), 0);
        CHECK.due("11: one cross", x.distance(0, 2), 1);
        x = Slots.with("01", "02", "");
        CHECK.due("11: one shift", x.distance(0, 1), 1);
        CHECK.due("11: one cut", x.distance(0, 2), 1);
        CHECK.due("11: one join", x.distance(2, 0), 1);
        x = Slots.with("01 23 45 67", "", "12 34 56 70");
        CHECK.due("11: four cuts", x.distance(0, 1), 4);
        CHECK.due("11: four joins", x.distance(1, 0), 4);
        CHECK.due("11: three crosses", x.distance(0, 2), 3);
        x = Slots.with("12", "01 23", "");
        CHECK.due("11: a shift and a join", x.distance(0, 1), 2);
        CHECK.due("11: and back", x.distance(1, 0), 2);
    }

    private static void promise12Nearer() {
        GenomeJoins x = Slots.with("01 23", "01 23", "");
        CHECK.due("12: the same genomes", x.nearer(0, 1), 0);
        CHECK.due("12: the same slot", x.nearer(0, 0), 0);
        CHECK.due("12: either joint is cut", x.nearer(0, 2), 2);
        CHECK.due("12: either joint is put in", x.nearer(2, 0), 2);
        x = Slots.with("01", "12", "");
        CHECK.due("12: one shift and no other", x.nearer(0, 1), 1);
        // Of 03 12, by a cut, of 01 and of 23, by a shift, one more step makes 12.
        x = Slots.with("01 23", "12", "");
        CHECK.due("12: two steps away", x.nearer(0, 1), 3);
    }

    private static void promise13Steps() {
        // Of k joints and m = 8 - 2 k loose ends come: k (k - 1) by crosses, 2 k m by shifts,
        // m (m - 1) / 2 by joins, k by cuts.
        GenomeJoins x = Slots.with("", "01", "01 23");
        CHECK.due("13: no joint", x.steps(0), 28);
        CHECK.due("13: one joint", x.steps(1), 28);
        CHECK.due("13: two joints", x.steps(2), 26);
        x = Slots.with("12 34 56", "12 34 56 70", "");
        CHECK.due("13: three joints", x.steps(0), 22);
        CHECK.due("13: all four", x.steps(1), 16);
    }

    private static void promise14Approach() {
        GenomeJoins x = Slots.with("02 13", "", "01 47");
        CHECK.due("14: by cross", x.approach(0, 2), 2);
        CHECK.dueGenome("14: by cross", x, 0, "1032....");
        CHECK.due("14: by join", x.approach(0, 2), 1);
        CHECK.dueGenome("14: by join", x, 0, "10327..4");
        CHECK.due("14: by a cut", x.approach(0, 2), 0);
        CHECK.dueGenome("14: by a cut", x, 0, "10..7..4");
        CHECK.due("14: there", x.approach(0, 2), NONE);
        CHECK.dueGenome("14: there", x, 0, "10..7..4");
        CHECK.dueGenome("14: the goal", x, 2, "10..7..4");
        CHECK.due("14: the same slot", x.approach(0, 0), NONE);
        CHECK.due("14: the least end is cut first", x.approach(0, 1), 1);
        CHECK.dueGenome("14: the least end is cut first", x, 0, "....7..4");
        CHECK.due("14: the least end is joined first", x.approach(1, 2), 1);
        CHECK.dueGenome("14: the least end is joined first", x, 1, "10......");
        x = Slots.with("05", "35", "03");
        CHECK.due("14: by a shift that leaves 5", x.approach(0, 2), 0);
        CHECK.dueGenome("14: by a shift that leaves 5", x, 0, "3..0....");
        CHECK.due("14: by a shift, the greater end being joined", x.approach(1, 2), 0);
        CHECK.dueGenome("14: by a shift, the greater end being joined", x, 1, "3..0....");
        x = Slots.with("01 67", "01 26", "");
        CHECK.due("14: a joint that is there is left alone", x.approach(0, 1), 0);
        CHECK.dueGenome("14: a joint that is there is left alone", x, 0, "106...2.");
        for (int no : NO_SLOTS) {
            CHECK.due("14: s = " + no, x.approach(no, 0), BAD_ARG);
            CHECK.due("14: r = " + no, x.approach(0, no), BAD_ARG);
        }
        CHECK.dueGenome("14: after refusals", x, 0, "106...2.");
    }

    private static void promise15Middle() {
        GenomeJoins x = Slots.with("01 23", "01 23", "01 23");
        CHECK.due("15: three times the same", x.middle(), 0);
        x = Slots.with("01", "01", "01 23");
        CHECK.due("15: twice the same and one a step away", x.middle(), 1);
        x = Slots.with("01", "02", "12");
        CHECK.due("15: each a step from the others", x.middle(), 2);
        x = Slots.with("01 23", "01 45", "23 45");
        CHECK.due("15: two joints of three each", x.middle(), 3);
        CHECK.dueGenome("15: nothing changes", x, 0, "1032....");
        CHECK.dueGenome("15: nothing changes", x, 1, "10..54..");
        CHECK.dueGenome("15: nothing changes", x, 2, "..3254..");
    }

    private static void promise16Middles() {
        GenomeJoins x = Slots.with("01 23", "01 23", "01 23");
        CHECK.due("16: three times the same", x.middles(), 1);
        x = Slots.with("01", "01", "01 23");
        CHECK.due("16: twice the same", x.middles(), 1);
        // A genome of sum 2 is at a distance of 0 from one of the three, as three ones make 3.
        x = Slots.with("01", "02", "12");
        CHECK.due("16: each a step from the others", x.middles(), 3);
        x = Slots.with("", "01 23 45 67", "");
        CHECK.due("16: two without a joint", x.middles(), 1);
        CHECK.dueGenome("16: nothing changes", x, 1, "10325476");
    }

    private static void promise17OnTheWay() {
        GenomeJoins x = Slots.with("", "01 23", "02");
        CHECK.due("17: the start", x.onTheWay(0, 1, 0, 0), true);
        CHECK.due("17: the start has no joint", x.onTheWay(0, 1, 0, 1), false);
        CHECK.due("17: half the way", x.onTheWay(0, 1, 1, 1), true);
        CHECK.due("17: not with two joints", x.onTheWay(0, 1, 1, 2), false);
        CHECK.due("17: not with no joint", x.onTheWay(0, 1, 1, 0), false);
        CHECK.due("17: the goal", x.onTheWay(0, 1, 2, 2), true);
        CHECK.due("17: past the goal", x.onTheWay(0, 1, 3, 3), false);
        CHECK.due("17: before the start", x.onTheWay(0, 1, -1, 1), false);
        CHECK.due("17: the least d", x.onTheWay(0, 1, Integer.MIN_VALUE, 1), false);
        CHECK.due("17: the greatest d", x.onTheWay(0, 1, Integer.MAX_VALUE, 1), false);
        CHECK.due("17: fewer joints than none", x.onTheWay(0, 1, 1, -1), false);
        CHECK.due("17: five joints", x.onTheWay(0, 1, 1, 5), false);
        CHECK.due("17: the same slot", x.onTheWay(1, 1, 0, 2), true);
        CHECK.due("17: the same slot, a step away", x.onTheWay(1, 1, 1, 2), false);
        // From 01 23 to 02: over 02 13 with two joints, and over 01 or 23 with one.
        CHECK.due("17: two ways, two joints", x.onTheWay(1, 2, 1, 2), true);
        CHECK.due("17: two ways, one joint", x.onTheWay(1, 2, 1, 1), true);
        CHECK.due("17: two ways, three joints", x.onTheWay(1, 2, 1, 3), false);
        for (int no : NO_SLOTS) {
            CHECK.due("17: s = " + no, x.onTheWay(no, 0, 0, 0), false);
            CHECK.due("17: r = " + no, x.onTheWay(0, no, 0, 0), false);
            CHECK.due("17: both " + no, x.onTheWay(no, no, 0, 0), false);
        }
    }

    private static void promise18Order() {
        GenomeJoins x = Slots.with("01", "", "");
        for (int no : NO_ENDS) {
            CHECK.due("18: join, a joined, b = " + no, x.join(0, 0, no), BAD_ARG);
            CHECK.due("18: join, b joined, a = " + no, x.join(0, no, 0), BAD_ARG);
            CHECK.due("18: cut, no joint, a = " + no, x.cut(1, no), BAD_ARG);
            CHECK.due("18: cross, a loose, c = " + no, x.cross(0, 2, no), BAD_ARG);
            CHECK.due("18: cross, c loose, a = " + no, x.cross(0, no, 2), BAD_ARG);
            CHECK.due("18: shift, a loose, c = " + no, x.shift(0, 2, no), BAD_ARG);
            CHECK.due("18: shift, c joined, a = " + no, x.shift(0, no, 0), BAD_ARG);
        }
        CHECK.due("18: join, the same joined end", x.join(0, 1, 1), BAD_ARG);
        CHECK.dueGenome("18: nothing changes", x, 0, "10......");
    }

    private static void termsSlotComesFirst() {
        GenomeJoins x = Slots.with("01 23", "45", "");
        for (int no : NO_SLOTS) {
            String slot = ", s = " + no;
            CHECK.due("join" + slot, x.join(no, 0, 1), BAD_ARG);
            CHECK.due("cut" + slot, x.cut(no, 0), BAD_ARG);
            CHECK.due("cross" + slot, x.cross(no, 0, 2), BAD_ARG);
            CHECK.due("shift" + slot, x.shift(no, 0, 4), BAD_ARG);
            CHECK.due("copy" + slot, x.copy(no, 0), BAD_ARG);
            CHECK.due("copy, both no slots" + slot, x.copy(no, no), BAD_ARG);
            CHECK.due("partner" + slot, x.partner(no, 0), BAD_ARG);
            CHECK.due("partner, no end" + slot, x.partner(no, 8), BAD_ARG);
            CHECK.due("joints" + slot, x.joints(no), BAD_ARG);
            CHECK.due("chromosomes" + slot, x.chromosomes(no), BAD_ARG);
            CHECK.due("round" + slot, x.round(no), BAD_ARG);
            CHECK.due("distance" + slot, x.distance(no, 0), BAD_ARG);
            CHECK.due("distance, r" + slot, x.distance(0, no), BAD_ARG);
            CHECK.due("distance, both no slots" + slot, x.distance(no, no), BAD_ARG);
            CHECK.due("nearer" + slot, x.nearer(no, 0), BAD_ARG);
            CHECK.due("nearer, r" + slot, x.nearer(0, no), BAD_ARG);
            CHECK.due("steps" + slot, x.steps(no), BAD_ARG);
            CHECK.due("approach, both no slots" + slot, x.approach(no, no), BAD_ARG);
        }
        CHECK.dueGenome("calls on no slot", x, 0, "1032....");
        CHECK.dueGenome("calls on no slot", x, 1, "....54..");
        CHECK.dueGenome("calls on no slot", x, 2, "........");
    }

    private static void objectsAreApart() {
        GenomeJoins x = new GenomeJoins();
        GenomeJoins y = new GenomeJoins();
        x.join(0, 0, 1);
        CHECK.dueGenome("a joint in another object", y, 0, "........");
    }
}
