/**
 * Every call that can be refused: the code it answers, which code comes first, and that none of
 * the three genomes has changed afterwards, as partner, joints and distance show it.
 */
public final class RefusalsTest {
    private static final int BAD_ARG = -1;
    private static final int NONE = -4;
    private static final int FALSE = 0;

    // Beside the first values beyond the range and the outermost ints: those that come back
    // into the range if they are multiplied by eight ends, or cut to a byte.
    private static final int[] NO_SLOTS = {
        -1, 3, Integer.MIN_VALUE, Integer.MAX_VALUE, 1 << 29, (1 << 29) + 2, 1 << 30, 256, -256};
    private static final int[] NO_ENDS = {-1, 8, Integer.MIN_VALUE, Integer.MAX_VALUE, -8, 15, 16, 256, -256};

    // One genome of each kind: with no joint, with loose ends and joined ones, with all four joints.
    private static final String EMPTY = "";
    private static final String HALF = "01 25";
    private static final String FULL = "07 12 34 56";
    private static final int[] LOOSE_IN_HALF = {3, 4, 6, 7};
    private static final int[] JOINED_IN_HALF = {0, 1, 2, 5};
    private static final int OF_EMPTY = 0;
    private static final int OF_HALF = 1;
    private static final int OF_FULL = 2;

    private static final Check CHECK = new Check();

    private interface Call {
        int on(GenomeJoins x);
    }

    private interface CallWithTwoEnds {
        void refused(String promise, int code, int s, int a, int b);
    }

    public static void main(String[] args) {
        promise2JoinOfNoEnds();
        promise2JoinOfTheSameEnd();
        promise2JoinOfEndsNotLoose();
        promise3Cut();
        promise4CrossOfNoEnds();
        promise4CrossOfLooseEnds();
        promise4CrossOfOneJoint();
        promise5ShiftOfNoEnds();
        promise5ShiftOfALooseEnd();
        promise5ShiftToAJoinedEnd();
        promise6Copy();
        promise7Partner();
        promise14ApproachOfTheSame();
        promise17OnTheWayOfNoSlots();
        promise18JoinBadArgFirst();
        promise18CutBadArgFirst();
        promise18CrossBadArgFirst();
        promise18ShiftBadArgFirst();
        termsNoSlotInPromises2To5();
        termsNoSlotInPromises6To10And13();
        termsNoSlotInPromises11And12And14();
        termsNoSlotComesFirst();
        CHECK.end();
    }

    private static void refused(String call, int code, Call made) {
        refusedWith(EMPTY, HALF, FULL, call, code, made);
    }

    private static void refusedWith(String zero, String one, String two, String call, int code, Call made) {
        GenomeJoins x = Slots.with(zero, one, two);
        CHECK.due(call, made.on(x), code);
        CHECK.dueSlots(call, x, Slots.modelWith(zero, one, two));
        CHECK.due(call + ", a second time", made.on(x), code);
    }

    private static void joinRefused(String promise, int code, int s, int a, int b) {
        refused(promise + ": join(" + s + ", " + a + ", " + b + ")", code, x -> x.join(s, a, b));
    }

    private static void cutRefused(String promise, int code, int s, int a) {
        refused(promise + ": cut(" + s + ", " + a + ")", code, x -> x.cut(s, a));
    }

    private static void crossRefused(String promise, int code, int s, int a, int c) {
        refused(promise + ": cross(" + s + ", " + a + ", " + c + ")", code, x -> x.cross(s, a, c));
    }

    private static void shiftRefused(String promise, int code, int s, int a, int c) {
        refused(promise + ": shift(" + s + ", " + a + ", " + c + ")", code, x -> x.shift(s, a, c));
    }

    private static void partnerRefused(String promise, int code, int s, int a) {
        refused(promise + ": partner(" + s + ", " + a + ")", code, x -> x.partner(s, a));
    }

    private static void noEnds(String promise, CallWithTwoEnds call) {
        for (int s = 0; s < 3; s++) {
            for (int no : NO_ENDS) {
                for (int end = 0; end < 8; end++) {
                    call.refused(promise + ", a no end", BAD_ARG, s, no, end);
                    call.refused(promise + ", the second no end", BAD_ARG, s, end, no);
                }
                for (int other : NO_ENDS) {
                    call.refused(promise + ", both no ends", BAD_ARG, s, no, other);
                }
            }
        }
    }

    // "a or b not 0 to 7, or the same, answers BAD_ARG"

    private static void promise2JoinOfNoEnds() {
        noEnds("promise 2", RefusalsTest::joinRefused);
    }

    private static void promise2JoinOfTheSameEnd() {
        for (int s = 0; s < 3; s++) {
            for (int end = 0; end < 8; end++) {
                joinRefused("promise 2, the same", BAD_ARG, s, end, end);
            }
        }
    }

    // "one of them is not loose answers NONE"

    private static void promise2JoinOfEndsNotLoose() {
        for (int joined : JOINED_IN_HALF) {
            for (int end = 0; end < 8; end++) {
                if (end != joined) {
                    joinRefused("promise 2, a not loose", NONE, OF_HALF, joined, end);
                    joinRefused("promise 2, b not loose", NONE, OF_HALF, end, joined);
                }
            }
        }
        for (int a = 0; a < 8; a++) {
            for (int b = 0; b < 8; b++) {
                if (a != b) {
                    joinRefused("promise 2, all four joints", NONE, OF_FULL, a, b);
                }
            }
        }
    }

    // "a not 0 to 7 answers BAD_ARG; a is loose answers NONE"

    private static void promise3Cut() {
        for (int no : NO_ENDS) {
            for (int s = 0; s < 3; s++) {
                cutRefused("promise 3", BAD_ARG, s, no);
            }
        }
        for (int end = 0; end < 8; end++) {
            cutRefused("promise 3, no joint", NONE, OF_EMPTY, end);
        }
        for (int loose : LOOSE_IN_HALF) {
            cutRefused("promise 3, a loose", NONE, OF_HALF, loose);
        }
    }

    // "a or c not 0 to 7 answers BAD_ARG"

    private static void promise4CrossOfNoEnds() {
        noEnds("promise 4", RefusalsTest::crossRefused);
    }

    // "one of them is loose, or both are of the same joint, answers NONE"

    private static void promise4CrossOfLooseEnds() {
        for (int a = 0; a < 8; a++) {
            for (int c = 0; c < 8; c++) {
                crossRefused("promise 4, no joint", NONE, OF_EMPTY, a, c);
            }
            for (int loose : LOOSE_IN_HALF) {
                crossRefused("promise 4, a loose", NONE, OF_HALF, loose, a);
                crossRefused("promise 4, c loose", NONE, OF_HALF, a, loose);
            }
        }
    }

    private static void promise4CrossOfOneJoint() {
        int[] pairs = {0, 1, 2, 5};
        for (int i = 0; i < pairs.length; i += 2) {
            crossRefused("promise 4, one joint", NONE, OF_HALF, pairs[i], pairs[i + 1]);
            crossRefused("promise 4, one joint", NONE, OF_HALF, pairs[i + 1], pairs[i]);
        }
        for (int joined : JOINED_IN_HALF) {
            crossRefused("promise 4, the same end", NONE, OF_HALF, joined, joined);
        }
        String partners = "72143650";
        for (int end = 0; end < 8; end++) {
            crossRefused("promise 4, one joint", NONE, OF_FULL, end, partners.charAt(end) - '0');
            crossRefused("promise 4, the same end", NONE, OF_FULL, end, end);
        }
    }

    // "a or c not 0 to 7 answers BAD_ARG"

    private static void promise5ShiftOfNoEnds() {
        noEnds("promise 5", RefusalsTest::shiftRefused);
    }

    // "a is loose or c is not answers NONE"

    private static void promise5ShiftOfALooseEnd() {
        for (int c = 0; c < 8; c++) {
            for (int a = 0; a < 8; a++) {
                shiftRefused("promise 5, no joint", NONE, OF_EMPTY, a, c);
            }
            for (int loose : LOOSE_IN_HALF) {
                shiftRefused("promise 5, a loose", NONE, OF_HALF, loose, c);
            }
        }
    }

    private static void promise5ShiftToAJoinedEnd() {
        for (int a = 0; a < 8; a++) {
            for (int c = 0; c < 8; c++) {
                shiftRefused("promise 5, all four joints", NONE, OF_FULL, a, c);
            }
            for (int joined : JOINED_IN_HALF) {
                shiftRefused("promise 5, c not loose", NONE, OF_HALF, a, joined);
            }
        }
    }

    // "BAD_ARG if r is none"

    private static void promise6Copy() {
        for (int no : NO_SLOTS) {
            for (int s = 0; s < 3; s++) {
                int slot = s;
                refused("promise 6: copy(" + s + ", " + no + ")", BAD_ARG, x -> x.copy(slot, no));
            }
        }
    }

    // "NONE if it is loose or a is not 0 to 7"

    private static void promise7Partner() {
        for (int no : NO_ENDS) {
            for (int s = 0; s < 3; s++) {
                partnerRefused("promise 7, no end", NONE, s, no);
            }
        }
        for (int end = 0; end < 8; end++) {
            partnerRefused("promise 7, no joint", NONE, OF_EMPTY, end);
        }
        for (int loose : LOOSE_IN_HALF) {
            partnerRefused("promise 7, loose", NONE, OF_HALF, loose);
        }
    }

    // "NONE if the genomes are the same"

    private static void promise14ApproachOfTheSame() {
        for (int s = 0; s < 3; s++) {
            int slot = s;
            refused("promise 14: approach(" + s + ", " + s + ")", NONE, x -> x.approach(slot, slot));
        }
        for (String genome : new String[] {EMPTY, HALF, FULL, "01 23 45 67"}) {
            for (int pair = 0; pair < 9; pair++) {
                int s = pair / 3;
                int r = pair % 3;
                String call = "promise 14, three times " + genome + ": approach(" + s + ", " + r + ")";
                refusedWith(genome, genome, genome, call, NONE, x -> x.approach(s, r));
            }
        }
    }

    // "false if there are no such slots"

    private static void promise17OnTheWayOfNoSlots() {
        for (int no : NO_SLOTS) {
            for (int d : new int[] {Integer.MIN_VALUE, -1, 0, 1, 4, Integer.MAX_VALUE}) {
                for (int n = -1; n <= 5; n++) {
                    onTheWayRefused(no, 0, d, n);
                    onTheWayRefused(2, no, d, n);
                    onTheWayRefused(no, no, d, n);
                }
            }
            onTheWayRefused(no, -1, 0, 0);
            onTheWayRefused(3, no, 0, 0);
        }
    }

    private static void onTheWayRefused(int s, int r, int d, int n) {
        String call = "promise 17: onTheWay(" + s + ", " + r + ", " + d + ", " + n + ")";
        refused(call, FALSE, x -> x.onTheWay(s, r, d, n) ? 1 : 0);
    }

    // "join, cut, cross, shift: BAD_ARG is tested before NONE": each call here is wrong in both ways.

    private static void promise18JoinBadArgFirst() {
        for (int no : NO_ENDS) {
            joinRefused("promise 18, a not loose", BAD_ARG, OF_HALF, 0, no);
            joinRefused("promise 18, b not loose", BAD_ARG, OF_HALF, no, 5);
            joinRefused("promise 18, all four joints", BAD_ARG, OF_FULL, 7, no);
            joinRefused("promise 18, all four joints", BAD_ARG, OF_FULL, no, 0);
        }
        for (int joined : JOINED_IN_HALF) {
            joinRefused("promise 18, the same, not loose", BAD_ARG, OF_HALF, joined, joined);
        }
    }

    private static void promise18CutBadArgFirst() {
        for (int no : NO_ENDS) {
            cutRefused("promise 18, no joint to cut", BAD_ARG, OF_EMPTY, no);
        }
    }

    private static void promise18CrossBadArgFirst() {
        for (int no : NO_ENDS) {
            crossRefused("promise 18, a loose", BAD_ARG, OF_HALF, 7, no);
            crossRefused("promise 18, c loose", BAD_ARG, OF_HALF, no, 3);
            crossRefused("promise 18, no joint", BAD_ARG, OF_EMPTY, 0, no);
            crossRefused("promise 18, no joint", BAD_ARG, OF_EMPTY, no, 7);
            crossRefused("promise 18, the same", BAD_ARG, OF_FULL, no, no);
        }
    }

    private static void promise18ShiftBadArgFirst() {
        for (int no : NO_ENDS) {
            shiftRefused("promise 18, a loose", BAD_ARG, OF_HALF, 7, no);
            shiftRefused("promise 18, c not loose", BAD_ARG, OF_HALF, no, 0);
            shiftRefused("promise 18, no joint", BAD_ARG, OF_EMPTY, 0, no);
            shiftRefused("promise 18, all four joints", BAD_ARG, OF_FULL, no, 7);
        }
    }

    // "In all calls, a slot that is not 0 to 2 answers BAD_ARG (or false) before anything else."

    private static void termsNoSlotInPromises2To5() {
        for (int no : NO_SLOTS) {
            for (int end = 0; end < 8; end++) {
                cutRefused("promise 3, no slot", BAD_ARG, no, end);
                for (int other = 0; other < 8; other++) {
                    joinRefused("promise 2, no slot", BAD_ARG, no, end, other);
                    crossRefused("promise 4, no slot", BAD_ARG, no, end, other);
                    shiftRefused("promise 5, no slot", BAD_ARG, no, end, other);
                }
            }
        }
    }

    private static void termsNoSlotInPromises6To10And13() {
        for (int no : NO_SLOTS) {
            String slot = "(" + no + ")";
            refused("promise 8: joints" + slot, BAD_ARG, x -> x.joints(no));
            refused("promise 9: chromosomes" + slot, BAD_ARG, x -> x.chromosomes(no));
            refused("promise 10: round" + slot, BAD_ARG, x -> x.round(no));
            refused("promise 13: steps" + slot, BAD_ARG, x -> x.steps(no));
            for (int r = 0; r < 3; r++) {
                int from = r;
                refused("promise 6: copy(" + no + ", " + r + ")", BAD_ARG, x -> x.copy(no, from));
            }
            for (int end = 0; end < 8; end++) {
                partnerRefused("promise 7, no slot", BAD_ARG, no, end);
            }
        }
    }

    private static void termsNoSlotInPromises11And12And14() {
        for (int no : NO_SLOTS) {
            for (int slot = 0; slot < 3; slot++) {
                pairRefused(no, slot);
                pairRefused(slot, no);
            }
            for (int other : NO_SLOTS) {
                pairRefused(no, other);
            }
        }
    }

    private static void pairRefused(int s, int r) {
        String slots = "(" + s + ", " + r + ")";
        refused("promise 11: distance" + slots, BAD_ARG, x -> x.distance(s, r));
        refused("promise 12: nearer" + slots, BAD_ARG, x -> x.nearer(s, r));
        refused("promise 14: approach" + slots, BAD_ARG, x -> x.approach(s, r));
    }

    /** "before anything else": what is wrong besides the slot would, by itself, answer something else. */
    private static void termsNoSlotComesFirst() {
        for (int no : NO_SLOTS) {
            for (int end : NO_ENDS) {
                partnerRefused("promise 7, no slot and no end", BAD_ARG, no, end);
                cutRefused("promise 3, no slot and no end", BAD_ARG, no, end);
                joinRefused("promise 2, no slot and no ends", BAD_ARG, no, end, end);
                crossRefused("promise 4, no slot and no ends", BAD_ARG, no, end, end);
                shiftRefused("promise 5, no slot and no ends", BAD_ARG, no, end, end);
            }
            for (int other : NO_SLOTS) {
                refused("promise 6: copy(" + no + ", " + other + ")", BAD_ARG, x -> x.copy(no, other));
            }
        }
    }
}
