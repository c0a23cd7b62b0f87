/**
 * The outermost cases that are still allowed, promise by promise, with answers worked out by hand:
 * the first and the last slot and end, a genome with no joint and one with all four, a joint of
 * the two ends of one gene, both genomes the same, and a slot with itself.
 */
public final class BoundariesTest {
    private static final int NONE = -4;

    private static final String EMPTY = "";
    private static final String SELF = "01 23 45 67";
    private static final String RING = "07 12 34 56";
    private static final String PARTNERS_IN_RING = "72143650";
    private static final String[] WITH_0_TO_4_JOINTS = {EMPTY, "07", "07 12", "07 12 34", RING};

    // No range is named for d and n: beyond these edges there is no genome, so that the answer is false.
    private static final int[] NO_DISTANCES = {-1, 5, Integer.MIN_VALUE, Integer.MAX_VALUE};
    private static final int[] NO_NUMBERS = {-1, 5, Integer.MIN_VALUE, Integer.MAX_VALUE};

    private static final Check CHECK = new Check();

    public static void main(String[] args) {
        promise1();
        for (int s = 0; s < 3; s++) {
            promise2NoJointToAllFour(s);
            promise2EveryPairOfEnds(s);
            promise3AllFourJointsToNone(s);
            promise3EveryEndOfAllFour(s);
            promise4FirstAndLastEnd(s);
            promise4EveryPairOfAllFour(s);
            promise5FirstAndLastEnd(s);
            promise5FewestAndMostLooseEnds(s);
            promise7FirstAndLastEnd(s);
            promise8NoneToFour(s);
            promise9And10NoJointAndAllFour(s);
            promise9And10JointsOfOneGene(s);
            promise13NoJointAndAllFour(s);
        }
        promise6EveryPairOfSlots();
        promise9And10HangTogether();
        promise11TheSame();
        promise11NoJointAndAllFour();
        promise12TheSame();
        promise12NoJointAndAllFour();
        promise12OneStepAway();
        promise14NoJointToAllFour();
        promise14AllFourToNoJoint();
        promise14AllFourToAllFour();
        promise15And16TheSame();
        promise15And16NoJointAndAllFour();
        promise15And16AllDifferent();
        promise17NoJointToAllFour();
        promise17TheSame();
        promise17NoGenomeHasThatDistance();
        promise17NoGenomeHasThatManyJoints();
        CHECK.end();
    }

    private static String at(int s) {
        return " (slot " + s + ")";
    }

    private static void promise1() {
        GenomeJoins used = Slots.with(SELF, RING, "01");
        GenomeJoins x = new GenomeJoins();
        CHECK.dueSlots("promise 1: a new object beside one in use", x, new Model());
        for (int s = 0; s < 3; s++) {
            CHECK.dueGenome("promise 1: a new object", x, s, "........");
            CHECK.due("promise 1: joints" + at(s), x.joints(s), 0);
        }
        CHECK.dueSlots("promise 1: the one in use", used, Slots.modelWith(SELF, RING, "01"));
    }

    private static void promise2NoJointToAllFour(int s) {
        GenomeJoins x = new GenomeJoins();
        CHECK.due("promise 2: the first and the last end" + at(s), x.join(s, 0, 7), 1);
        CHECK.due("promise 2: the second joint" + at(s), x.join(s, 2, 1), 2);
        CHECK.due("promise 2: the third joint" + at(s), x.join(s, 3, 4), 3);
        CHECK.due("promise 2: the last two loose ends" + at(s), x.join(s, 6, 5), 4);
        CHECK.dueGenome("promise 2: all four joints" + at(s), x, s, PARTNERS_IN_RING);
        CHECK.dueGenome("promise 2: the next slot" + at(s), x, (s + 1) % 3, "........");
        CHECK.dueGenome("promise 2: the slot before" + at(s), x, (s + 2) % 3, "........");
        CHECK.due("promise 2: all four joints" + at(s), x.join(s, 0, 1), NONE);
        x.cut(s, 7);
        CHECK.due("promise 2: ends that are loose again" + at(s), x.join(s, 7, 0), 4);
    }

    private static void promise2EveryPairOfEnds(int s) {
        for (int a = 0; a < 8; a++) {
            for (int b = 0; b < 8; b++) {
                if (a != b) {
                    String call = "promise 2: " + a + " and " + b + at(s);
                    GenomeJoins x = new GenomeJoins();
                    CHECK.due(call, x.join(s, a, b), 1);
                    CHECK.due(call + ", partner of a", x.partner(s, a), b);
                    CHECK.due(call + ", partner of b", x.partner(s, b), a);
                    CHECK.due(call + ", joints", x.joints(s), 1);
                }
            }
        }
    }

    private static void promise3AllFourJointsToNone(int s) {
        GenomeJoins x = Slots.withOne(s, RING);
        CHECK.due("promise 3: at the first end" + at(s), x.cut(s, 0), 7);
        CHECK.dueGenome("promise 3: at the first end" + at(s), x, s, ".214365.");
        CHECK.due("promise 3: the second joint" + at(s), x.cut(s, 4), 3);
        CHECK.due("promise 3: the third joint" + at(s), x.cut(s, 1), 2);
        CHECK.dueGenome("promise 3: the last joint is left" + at(s), x, s, ".....65.");
        CHECK.due("promise 3: the last joint" + at(s), x.cut(s, 6), 5);
        CHECK.dueGenome("promise 3: no joint" + at(s), x, s, "........");
        CHECK.due("promise 3: no joint, the first end" + at(s), x.cut(s, 0), NONE);
        CHECK.due("promise 3: no joint, the last end" + at(s), x.cut(s, 7), NONE);
    }

    private static void promise3EveryEndOfAllFour(int s) {
        for (int a = 0; a < 8; a++) {
            int b = PARTNERS_IN_RING.charAt(a) - '0';
            GenomeJoins x = Slots.withOne(s, RING);
            CHECK.due("promise 3: at " + a + at(s), x.cut(s, a), b);
            CHECK.due("promise 3: at " + a + ", joints" + at(s), x.joints(s), 3);
            CHECK.due("promise 3: at " + a + ", now loose" + at(s), x.partner(s, a), NONE);
            CHECK.due("promise 3: at " + a + ", the other end, now loose" + at(s), x.partner(s, b), NONE);
            CHECK.due("promise 3: at " + a + " once more" + at(s), x.cut(s, a), NONE);
            CHECK.due("promise 3: at the other end, " + b + at(s), x.cut(s, b), NONE);
        }
    }

    private static void promise4FirstAndLastEnd(int s) {
        GenomeJoins x = Slots.withOne(s, "01 67");
        CHECK.due("promise 4: the first and the last end" + at(s), x.cross(s, 0, 7), 0);
        CHECK.dueGenome("promise 4: 07 and 16" + at(s), x, s, "76....10");
        CHECK.due("promise 4: the last and the first joint's other end" + at(s), x.cross(s, 7, 6), 0);
        CHECK.dueGenome("promise 4: back at 01 and 67" + at(s), x, s, "10....76");
        CHECK.due("promise 4: two joints of one gene each, as 1 and 7" + at(s), x.cross(s, 1, 7), 0);
        CHECK.dueGenome("promise 4: 17 and 06" + at(s), x, s, "67....01");
        x = Slots.withOne(s, "07");
        CHECK.due("promise 4: the only joint" + at(s), x.cross(s, 0, 7), NONE);
        CHECK.dueGenome("promise 4: the only joint" + at(s), x, s, "7......0");
    }

    private static void promise4EveryPairOfAllFour(int s) {
        for (int a = 0; a < 8; a++) {
            for (int c = 0; c < 8; c++) {
                int b = PARTNERS_IN_RING.charAt(a) - '0';
                int d = PARTNERS_IN_RING.charAt(c) - '0';
                if (c != a && c != b) {
                    GenomeJoins x = Slots.withOne(s, RING);
                    char[] due = PARTNERS_IN_RING.toCharArray();
                    due[a] = (char) ('0' + c);
                    due[c] = (char) ('0' + a);
                    due[b] = (char) ('0' + d);
                    due[d] = (char) ('0' + b);
                    String call = "promise 4: " + a + " and " + c + " of all four" + at(s);
                    CHECK.due(call, x.cross(s, a, c), 0);
                    CHECK.dueGenome(call, x, s, new String(due));
                    CHECK.due(call + ", joints", x.joints(s), 4);
                }
            }
        }
    }

    private static void promise5FirstAndLastEnd(int s) {
        GenomeJoins x = Slots.withOne(s, "01");
        CHECK.due("promise 5: the first end to the last" + at(s), x.shift(s, 0, 7), 1);
        CHECK.dueGenome("promise 5: 07" + at(s), x, s, "7......0");
        CHECK.due("promise 5: the last end to 6, of one gene" + at(s), x.shift(s, 7, 6), 0);
        CHECK.dueGenome("promise 5: 67" + at(s), x, s, "......76");
        CHECK.due("promise 5: the last end to the first" + at(s), x.shift(s, 7, 0), 6);
        CHECK.dueGenome("promise 5: 70" + at(s), x, s, "7......0");
    }

    private static void promise5FewestAndMostLooseEnds(int s) {
        GenomeJoins x = Slots.withOne(s, "01 23 45");
        CHECK.due("promise 5: three joints, the first loose end" + at(s), x.shift(s, 5, 6), 4);
        CHECK.dueGenome("promise 5: 56" + at(s), x, s, "1032.65.");
        CHECK.due("promise 5: three joints, the end just left" + at(s), x.shift(s, 5, 4), 6);
        CHECK.due("promise 5: three joints, the last loose end" + at(s), x.shift(s, 0, 7), 1);
        CHECK.dueGenome("promise 5: 07" + at(s), x, s, "7.3254.0");
        CHECK.due("promise 5: joints stay three" + at(s), x.joints(s), 3);
        for (int c = 2; c < 8; c++) {
            x = Slots.withOne(s, "01");
            CHECK.due("promise 5: the only joint, 1 to " + c + at(s), x.shift(s, 1, c), 0);
            CHECK.due("promise 5: then partner of " + c + at(s), x.partner(s, c), 1);
            CHECK.due("promise 5: then partner of 0" + at(s), x.partner(s, 0), NONE);
            CHECK.due("promise 5: joints stay one" + at(s), x.joints(s), 1);
        }
    }

    private static void promise6EveryPairOfSlots() {
        String[] genomes = {EMPTY, "01 25", RING};
        int[] joints = {0, 2, 4};
        for (int s = 0; s < 3; s++) {
            for (int r = 0; r < 3; r++) {
                String call = "promise 6: copy(" + s + ", " + r + ")";
                String[] due = genomes.clone();
                due[s] = genomes[r];
                GenomeJoins x = Slots.with(genomes[0], genomes[1], genomes[2]);
                CHECK.due(call, x.copy(s, r), joints[r]);
                CHECK.dueSlots(call, x, Slots.modelWith(due[0], due[1], due[2]));
                CHECK.due(call + " once more", x.copy(s, r), joints[r]);
            }
        }
    }

    private static void promise7FirstAndLastEnd(int s) {
        GenomeJoins x = Slots.withOne(s, RING);
        CHECK.due("promise 7: the first end" + at(s), x.partner(s, 0), 7);
        CHECK.due("promise 7: the last end" + at(s), x.partner(s, 7), 0);
        CHECK.dueGenome("promise 7: all four joints" + at(s), x, s, PARTNERS_IN_RING);
        x = Slots.withOne(s, EMPTY);
        CHECK.due("promise 7: the first end, loose" + at(s), x.partner(s, 0), NONE);
        CHECK.due("promise 7: the last end, loose" + at(s), x.partner(s, 7), NONE);
        x = Slots.withOne(s, "45");
        CHECK.due("promise 7: a joint of one gene" + at(s), x.partner(s, 5), 4);
    }

    private static void promise8NoneToFour(int s) {
        for (int joints = 0; joints <= 4; joints++) {
            GenomeJoins x = Slots.withOne(s, WITH_0_TO_4_JOINTS[joints]);
            CHECK.due("promise 8: " + joints + " joints" + at(s), x.joints(s), joints);
            CHECK.due("promise 8: the next slot" + at(s), x.joints((s + 1) % 3), 0);
        }
    }

    private static void chromosomesAndRound(String genome, int s, int chromosomes, int round) {
        GenomeJoins x = Slots.withOne(s, genome);
        CHECK.due("promise 9: chromosomes of " + genome + at(s), x.chromosomes(s), chromosomes);
        CHECK.due("promise 10: round ones of " + genome + at(s), x.round(s), round);
    }

    private static void promise9And10NoJointAndAllFour(int s) {
        chromosomesAndRound(EMPTY, s, 4, 0);
        chromosomesAndRound(RING, s, 1, 1);
        chromosomesAndRound("02 13 46 57", s, 2, 2);
        chromosomesAndRound("06 17 24 35", s, 2, 2);
    }

    private static void promise9And10JointsOfOneGene(int s) {
        for (String joint : SELF.split(" ")) {
            chromosomesAndRound(joint, s, 4, 1);
        }
        chromosomesAndRound("23 67", s, 4, 2);
        chromosomesAndRound("01 23 45", s, 4, 3);
        chromosomesAndRound(SELF, s, 4, 4);
        chromosomesAndRound("01 24 36 57", s, 2, 2);
        chromosomesAndRound("67 02 14 35", s, 2, 2);
        chromosomesAndRound("67 02 14", s, 2, 1);
    }

    private static void promise9And10HangTogether() {
        chromosomesAndRound("12 34 56", 0, 1, 0);
        chromosomesAndRound("05 42 37", 1, 1, 0);
        chromosomesAndRound("06", 2, 3, 0);
        chromosomesAndRound("06 17", 0, 3, 1);
        chromosomesAndRound("06 34", 1, 2, 0);
        chromosomesAndRound("24 36 57", 2, 2, 1);
        chromosomesAndRound("06 17 24", 0, 2, 1);
    }

    private static void promise11TheSame() {
        for (String genome : WITH_0_TO_4_JOINTS) {
            GenomeJoins x = Slots.with(genome, genome, genome);
            for (int s = 0; s < 3; s++) {
                for (int r = 0; r < 3; r++) {
                    String call = "promise 11: " + genome + " from itself, distance(" + s + ", " + r + ")";
                    CHECK.due(call, x.distance(s, r), 0);
                }
            }
        }
    }

    private static void promise11NoJointAndAllFour() {
        GenomeJoins x = Slots.with(EMPTY, SELF, RING);
        int[][] due = {{0, 4, 4}, {4, 0, 3}, {4, 3, 0}};
        for (int s = 0; s < 3; s++) {
            for (int r = 0; r < 3; r++) {
                CHECK.due("promise 11: distance(" + s + ", " + r + ")", x.distance(s, r), due[s][r]);
            }
        }
        for (int joints = 0; joints <= 4; joints++) {
            x = Slots.with(EMPTY, WITH_0_TO_4_JOINTS[joints], RING);
            CHECK.due("promise 11: from no joint to " + joints, x.distance(0, 1), joints);
            CHECK.due("promise 11: from all four to " + joints, x.distance(2, 1), 4 - joints);
        }
    }

    private static void promise12TheSame() {
        for (String genome : WITH_0_TO_4_JOINTS) {
            GenomeJoins x = Slots.with(genome, genome, genome);
            for (int s = 0; s < 3; s++) {
                for (int r = 0; r < 3; r++) {
                    String call = "promise 12: " + genome + " and itself, nearer(" + s + ", " + r + ")";
                    CHECK.due(call, x.nearer(s, r), 0);
                }
            }
        }
    }

    private static void promise12NoJointAndAllFour() {
        GenomeJoins x = Slots.with(EMPTY, SELF, RING);
        CHECK.due("promise 12: one of four joints put in", x.nearer(0, 1), 4);
        CHECK.due("promise 12: one of four joints put in", x.nearer(0, 2), 4);
        CHECK.due("promise 12: one of four joints cut", x.nearer(1, 0), 4);
        CHECK.due("promise 12: one of four joints cut", x.nearer(2, 0), 4);
        // Alternately of SELF and RING, the joints make one circle: of the two ways to cross two
        // of them, one parts it, which brings SELF nearer, and one does not.
        CHECK.due("promise 12: any two of four joints crossed", x.nearer(1, 2), 6);
        CHECK.due("promise 12: any two of four joints crossed", x.nearer(2, 1), 6);
    }

    private static void promise12OneStepAway() {
        GenomeJoins x = Slots.with(RING, "17 02 34 56", "07 12 34");
        CHECK.due("promise 12: a cross away", x.nearer(0, 1), 1);
        CHECK.due("promise 12: a cut away", x.nearer(0, 2), 1);
        CHECK.due("promise 12: a join away", x.nearer(2, 0), 1);
        x = Slots.with("07", "17", EMPTY);
        CHECK.due("promise 12: a shift away", x.nearer(0, 1), 1);
        CHECK.due("promise 12: a shift away", x.nearer(1, 0), 1);
        CHECK.due("promise 12: the only joint put in", x.nearer(2, 1), 1);
        CHECK.due("promise 12: the only joint cut", x.nearer(1, 2), 1);
    }

    private static void promise13NoJointAndAllFour(int s) {
        CHECK.due("promise 13: no joint" + at(s), Slots.withOne(s, EMPTY).steps(s), 28);
        CHECK.due("promise 13: all four joints" + at(s), Slots.withOne(s, RING).steps(s), 16);
        CHECK.due("promise 13: all four of one gene each" + at(s), Slots.withOne(s, SELF).steps(s), 16);
    }

    private static void approachTheWholeWay(String genome, String goal, String... partners) {
        for (int pair = 0; pair < 9; pair++) {
            int s = pair / 3;
            int r = pair % 3;
            if (s != r) {
                String[] genomes = {"25", "25", "25"};
                genomes[s] = genome;
                genomes[r] = goal;
                GenomeJoins x = Slots.with(genomes[0], genomes[1], genomes[2]);
                String way = "promise 14: from " + genome + " to " + goal + ", slot " + s + " to " + r;
                for (int step = 0; step < partners.length; step++) {
                    CHECK.due(way + ", step " + step, x.approach(s, r), partners.length - 1 - step);
                    CHECK.dueGenome(way + ", step " + step, x, s, partners[step]);
                }
                CHECK.due(way + ", there", x.approach(s, r), NONE);
                CHECK.dueGenome(way + ", there", x, s, partners[partners.length - 1]);
                CHECK.dueGenome(way + ", the goal", x, r, partners[partners.length - 1]);
                CHECK.dueGenome(way + ", the third slot", x, 3 - s - r, "..5..2..");
            }
        }
    }

    private static void promise14NoJointToAllFour() {
        approachTheWholeWay(EMPTY, RING, "7......0", "721....0", "72143..0", PARTNERS_IN_RING);
    }

    private static void promise14AllFourToNoJoint() {
        approachTheWholeWay(RING, EMPTY, ".214365.", "...4365.", ".....65.", "........");
    }

    private static void promise14AllFourToAllFour() {
        approachTheWholeWay(SELF, RING, "76325410", "72165430", PARTNERS_IN_RING);
        approachTheWholeWay(RING, SELF, "10743652", "10327654", "10325476");
    }

    private static void middles(String promise, String zero, String one, String two, int middle, int middles) {
        GenomeJoins x = Slots.with(zero, one, two);
        String of = " of " + zero + " | " + one + " | " + two;
        CHECK.due("promise 15: " + promise + ", middle" + of, x.middle(), middle);
        CHECK.due("promise 16: " + promise + ", middles" + of, x.middles(), middles);
        CHECK.dueSlots("promises 15 and 16: " + promise, x, Slots.modelWith(zero, one, two));
    }

    private static void promise15And16TheSame() {
        for (String genome : WITH_0_TO_4_JOINTS) {
            middles("three times the same", genome, genome, genome, 0, 1);
        }
    }

    private static void promise15And16NoJointAndAllFour() {
        for (String full : new String[] {SELF, RING}) {
            middles("all four joints once", EMPTY, EMPTY, full, 4, 1);
            middles("all four joints once", EMPTY, full, EMPTY, 4, 1);
            middles("all four joints once", full, EMPTY, EMPTY, 4, 1);
            middles("no joint once", full, full, EMPTY, 4, 1);
            middles("no joint once", full, EMPTY, full, 4, 1);
            middles("no joint once", EMPTY, full, full, 4, 1);
        }
    }

    /** Each is a cross from the other two, so that only these three have a sum of 2. */
    private static void promise15And16AllDifferent() {
        middles("a cross apart", "01 23 45 67", "02 13 45 67", "03 12 45 67", 2, 3);
        middles("a cross apart", "01 23 46 57", "01 23 47 56", "01 23 45 67", 2, 3);
    }

    private static void way(String promise, GenomeJoins x, int[] way, boolean due) {
        String call = "onTheWay(" + way[0] + ", " + way[1] + ", " + way[2] + ", " + way[3] + ")";
        CHECK.due("promise 17: " + promise + ", " + call, x.onTheWay(way[0], way[1], way[2], way[3]), due);
    }

    private static void promise17NoJointToAllFour() {
        for (String full : new String[] {SELF, RING}) {
            GenomeJoins x = Slots.with(EMPTY, EMPTY, full);
            for (int d = 0; d <= 4; d++) {
                for (int n = 0; n <= 4; n++) {
                    way("from no joint to " + full, x, new int[] {0, 2, d, n}, n == d);
                    way("from " + full + " to no joint", x, new int[] {2, 1, d, n}, n == 4 - d);
                }
            }
        }
    }

    private static void promise17TheSame() {
        for (int joints = 0; joints <= 4; joints++) {
            String genome = WITH_0_TO_4_JOINTS[joints];
            for (int pair = 0; pair < 9; pair++) {
                GenomeJoins x = Slots.with(genome, genome, genome);
                int s = pair / 3;
                int r = pair % 3;
                for (int d = -1; d <= 5; d++) {
                    for (int n = -1; n <= 5; n++) {
                        boolean due = d == 0 && n == joints;
                        way("three times " + genome, x, new int[] {s, r, d, n}, due);
                    }
                }
            }
        }
    }

    private static void promise17NoGenomeHasThatDistance() {
        GenomeJoins x = Slots.with(EMPTY, "07 12", RING);
        for (int n = 0; n <= 4; n++) {
            for (int d : NO_DISTANCES) {
                way("no such distance", x, new int[] {0, 2, d, n}, false);
                way("no such distance", x, new int[] {2, 0, d, n}, false);
                way("no such distance", x, new int[] {1, 1, d, n}, false);
            }
            // Genomes 3 away from slot 0 there are, but none is -1 away from slot 1.
            way("one past the goal", x, new int[] {0, 1, 3, n}, false);
            way("at the goal", x, new int[] {0, 1, 2, n}, n == 2);
            way("at the start", x, new int[] {0, 1, 0, n}, n == 0);
        }
    }

    private static void promise17NoGenomeHasThatManyJoints() {
        GenomeJoins x = Slots.with(EMPTY, "07 12", RING);
        for (int n : NO_NUMBERS) {
            for (int d = 0; d <= 4; d++) {
                way("no such number of joints", x, new int[] {0, 2, d, n}, false);
                way("no such number of joints", x, new int[] {2, 0, d, n}, false);
                way("no such number of joints", x, new int[] {1, 1, d, n}, false);
            }
        }
    }
}
