/**
 * Genomes of four genes, how far one is from another by cutting and joining,
 * and what lies in the middle of three.
 */
public final class GenomeJoins {
    public static final int BAD_ARG = -1;
    public static final int NONE = -4;

    private static final int GENES = 4;
    private static final int ENDS = 8;
    private static final int SLOTS = 3;
    private static final int LOOSE = -1;
    private static final int NO_END = -1;

    // Eight ends can be joined in 764 ways: 1 + 28 + 210 + 420 + 105, by the number of joints.
    private static final int GENOMES = 764;

    // The slots come first, so that a slot's number is also its row.
    private static final int SCRATCH = SLOTS;
    private static final int FIRST_LISTED = SCRATCH + 1;
    private static final int ROWS = FIRST_LISTED + GENOMES;
    private static final int CELLS = ROWS * ENDS;

    // One array for the slots and the list of all genomes, so that any two can be compared by their rows.
    private final int[] mates = new int[CELLS];

    public GenomeJoins() {
        for (int cell = 0; cell < CELLS; cell++) {
            mates[cell] = LOOSE;
        }
        listAllGenomes();
    }

    public int join(int s, int a, int b) {
        if (isNoSlot(s) || isNoEnd(a) || isNoEnd(b) || a == b) {
            return BAD_ARG;
        }
        if (!isLoose(s, a) || !isLoose(s, b)) {
            return NONE;
        }
        makeJoint(s, a, b);
        return countJoints(s);
    }

    public int cut(int s, int a) {
        if (isNoSlot(s) || isNoEnd(a)) {
            return BAD_ARG;
        }
        if (isLoose(s, a)) {
            return NONE;
        }
        int b = mates[s * ENDS + a];
        takeJoint(s, a, b);
        return b;
    }

    public int cross(int s, int a, int c) {
        if (isNoSlot(s) || isNoEnd(a) || isNoEnd(c)) {
            return BAD_ARG;
        }
        if (isLoose(s, a) || isLoose(s, c) || a == c || mates[s * ENDS + a] == c) {
            return NONE;
        }
        makeJoint(s, a, c);
        return 0;
    }

    public int shift(int s, int a, int c) {
        if (isNoSlot(s) || isNoEnd(a) || isNoEnd(c)) {
            return BAD_ARG;
        }
        if (isLoose(s, a) || !isLoose(s, c)) {
            return NONE;
        }
        int b = mates[s * ENDS + a];
        makeJoint(s, a, c);
        return b;
    }

    public int copy(int s, int r) {
        if (isNoSlot(s) || isNoSlot(r)) {
            return BAD_ARG;
        }
        copyRow(s, r);
        return countJoints(s);
    }

    public int partner(int s, int a) {
        if (isNoSlot(s)) {
            return BAD_ARG;
        }
        if (isNoEnd(a) || isLoose(s, a)) {
            return NONE;
        }
        return mates[s * ENDS + a];
    }

    public int joints(int s) {
        if (isNoSlot(s)) {
            return BAD_ARG;
        }
        return countJoints(s);
    }

    public int chromosomes(int s) {
        if (isNoSlot(s)) {
            return BAD_ARG;
        }
        int count = 0;
        for (int gene = 0; gene < GENES; gene++) {
            int genes = genesAround(s, gene);
            if (isLeastOf(gene, genes)) {
                count++;
            }
        }
        return count;
    }

    public int round(int s) {
        if (isNoSlot(s)) {
            return BAD_ARG;
        }
        int count = 0;
        for (int gene = 0; gene < GENES; gene++) {
            int genes = genesAround(s, gene);
            if (isLeastOf(gene, genes) && !hasLooseEnd(s, genes)) {
                count++;
            }
        }
        return count;
    }

    public int distance(int s, int r) {
        if (isNoSlot(s) || isNoSlot(r)) {
            return BAD_ARG;
        }
        return stepsBetween(s, r);
    }

    public int nearer(int s, int r) {
        if (isNoSlot(s) || isNoSlot(r)) {
            return BAD_ARG;
        }
        int whole = stepsBetween(s, r);
        int count = 0;
        for (int row = FIRST_LISTED; row < ROWS; row++) {
            if (stepsBetween(s, row) == 1 && stepsBetween(row, r) < whole) {
                count++;
            }
        }
        return count;
    }

    public int steps(int s) {
        if (isNoSlot(s)) {
            return BAD_ARG;
        }
        int count = 0;
        for (int row = FIRST_LISTED; row < ROWS; row++) {
            if (stepsBetween(s, row) == 1) {
                count++;
            }
        }
        return count;
    }

    public int approach(int s, int r) {
        if (isNoSlot(s) || isNoSlot(r)) {
            return BAD_ARG;
        }
        if (!stepTowards(s, r)) {
            return NONE;
        }
        return stepsBetween(s, r);
    }

    public int middle() {
        int least = sumOfDistances(FIRST_LISTED);
        for (int row = FIRST_LISTED + 1; row < ROWS; row++) {
            int sum = sumOfDistances(row);
            if (sum < least) {
                least = sum;
            }
        }
        return least;
    }

    public int middles() {
        int least = sumOfDistances(FIRST_LISTED);
        int count = 1;
        for (int row = FIRST_LISTED + 1; row < ROWS; row++) {
            int sum = sumOfDistances(row);
            if (sum < least) {
                least = sum;
                count = 0;
            }
            if (sum == least) {
                count++;
            }
        }
        return count;
    }

    public boolean onTheWay(int s, int r, int d, int n) {
        if (isNoSlot(s) || isNoSlot(r)) {
            return false;
        }
        int whole = stepsBetween(s, r);
        for (int row = FIRST_LISTED; row < ROWS; row++) {
            if (countJoints(row) == n && stepsBetween(s, row) == d && stepsBetween(row, r) == whole - d) {
                return true;
            }
        }
        return false;
    }

    private static boolean isNoSlot(int s) {
        return s < 0 || s >= SLOTS;
    }

    private static boolean isNoEnd(int a) {
        return a < 0 || a >= ENDS;
    }

    private boolean isLoose(int row, int a) {
        return mates[row * ENDS + a] == LOOSE;
    }

    /**
     * Each pair of ends is added to every genome listed before its turn came: a genome
     * is so listed once, by its joints in the order of their turns.
     */
    private void listAllGenomes() {
        int next = FIRST_LISTED + 1;
        for (int a = 0; a < ENDS; a++) {
            for (int b = a + 1; b < ENDS; b++) {
                int listed = next;
                for (int row = FIRST_LISTED; row < listed; row++) {
                    if (next < ROWS && isLoose(row, a) && isLoose(row, b)) {
                        copyRow(next, row);
                        makeJoint(next, a, b);
                        next++;
                    }
                }
            }
        }
    }

    private void copyRow(int to, int from) {
        for (int a = 0; a < ENDS; a++) {
            mates[to * ENDS + a] = mates[from * ENDS + a];
        }
    }

    /**
     * Cross, shift and join in one: the ends that a and b leave behind become each other's
     * mates, and where only one of them leaves an end behind, that end gets LOOSE for a mate.
     */
    private void makeJoint(int row, int a, int b) {
        int first = row * ENDS;
        int leftByA = mates[first + a];
        int leftByB = mates[first + b];
        if (leftByA != LOOSE) {
            mates[first + leftByA] = leftByB;
        }
        if (leftByB != LOOSE) {
            mates[first + leftByB] = leftByA;
        }
        mates[first + a] = b;
        mates[first + b] = a;
    }

    private void takeJoint(int row, int a, int b) {
        mates[row * ENDS + a] = LOOSE;
        mates[row * ENDS + b] = LOOSE;
    }

    private int countJoints(int row) {
        int joined = 0;
        for (int a = 0; a < ENDS; a++) {
            if (mates[row * ENDS + a] != LOOSE) {
                joined++;
            }
        }
        return joined / 2;
    }

    /** The chromosome of a gene, as a set of genes with one bit each. */
    private int genesAround(int row, int gene) {
        int genes = 1 << gene;
        // A pass that adds no gene ends the growth, so there are never more passes of use than genes.
        for (int pass = 0; pass < GENES; pass++) {
            for (int a = 0; a < ENDS; a++) {
                int b = mates[row * ENDS + a];
                if (b != LOOSE && isGeneOfEndIn(a, genes)) {
                    genes |= 1 << (b / 2);
                }
            }
        }
        return genes;
    }

    private static boolean isGeneOfEndIn(int a, int genes) {
        return (genes >> (a / 2) & 1) == 1;
    }

    /** A chromosome is counted at its least gene, so that it is counted once. */
    private static boolean isLeastOf(int gene, int genes) {
        int lesserGenes = (1 << gene) - 1;
        return (genes & lesserGenes) == 0;
    }

    private boolean hasLooseEnd(int row, int genes) {
        for (int a = 0; a < ENDS; a++) {
            if (isGeneOfEndIn(a, genes) && isLoose(row, a)) {
                return true;
            }
        }
        return false;
    }

    /** The least end of those joints that the goal has and the row has not. */
    private int leastEndLacking(int row, int goal) {
        for (int a = 0; a < ENDS; a++) {
            int b = mates[goal * ENDS + a];
            if (b != LOOSE && mates[row * ENDS + a] != b) {
                return a;
            }
        }
        return NO_END;
    }

    /** Answers false, and changes nothing, if the row is at the goal already. */
    private boolean stepTowards(int row, int goal) {
        int a = leastEndLacking(row, goal);
        if (a != NO_END) {
            makeJoint(row, a, mates[goal * ENDS + a]);
            return true;
        }
        a = leastEndLacking(goal, row);
        if (a != NO_END) {
            takeJoint(row, a, mates[row * ENDS + a]);
            return true;
        }
        return false;
    }

    /**
     * Each step towards the goal brings the genome nearer by one, which is the most that a
     * step can do; so their number is the distance. At most four joints are to be made and
     * four to be taken away, so there are never more steps than ends.
     */
    private int stepsBetween(int from, int goal) {
        copyRow(SCRATCH, from);
        int count = 0;
        while (count < ENDS && stepTowards(SCRATCH, goal)) {
            count++;
        }
        return count;
    }

    private int sumOfDistances(int row) {
        int sum = 0;
        for (int slot = 0; slot < SLOTS; slot++) {
            sum += stepsBetween(slot, row);
        }
        return sum;
    }
}
