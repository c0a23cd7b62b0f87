import java.util.ArrayDeque;
import java.util.ArrayList;
import java.util.Arrays;
import java.util.Deque;
import java.util.HashMap;
import java.util.List;
import java.util.Map;
import java.util.TreeSet;

/**
 * The document said once more, by other means than the program's: a genome is a set of joints,
 * its steps are the four ways of the document written out, and distances are searched for
 * breadth-first over all genomes.
 */
final class Model {
    static final int BAD_ARG = -1;
    static final int NONE = -4;
    static final int SLOTS = 3;

    /** All genomes, each a sorted set of joints "ab" with a the lesser end. */
    private static final List<TreeSet<String>> GENOMES = new ArrayList<>();
    private static final Map<TreeSet<String>, Integer> NUMBERS = new HashMap<>();
    private static final List<int[]> NEIGHBOURS = new ArrayList<>();
    private static final List<int[]> DISTANCES = new ArrayList<>();

    static {
        numberOf(new TreeSet<>());
        // The list grows as new genomes are reached, until there are no others.
        for (int genome = 0; genome < GENOMES.size(); genome++) {
            NEIGHBOURS.add(reachedByOneStep(GENOMES.get(genome)));
        }
        for (int genome = 0; genome < GENOMES.size(); genome++) {
            DISTANCES.add(distancesFrom(genome));
        }
    }

    private final int[] slots = new int[SLOTS];

    static int genomes() {
        return GENOMES.size();
    }

    static TreeSet<String> jointsOf(int genome) {
        return GENOMES.get(genome);
    }

    static int distanceOf(int genome, int other) {
        return DISTANCES.get(genome)[other];
    }

    static int stepsOf(int genome) {
        return NEIGHBOURS.get(genome).length;
    }

    static int nearerOf(int genome, int goal) {
        int count = 0;
        for (int next : NEIGHBOURS.get(genome)) {
            if (distanceOf(next, goal) < distanceOf(genome, goal)) {
                count++;
            }
        }
        return count;
    }

    static int chromosomesOf(int genome, boolean onlyRound) {
        int[] chromosome = {0, 1, 2, 3};
        int[] looseEnds = {2, 2, 2, 2};
        for (String joint : jointsOf(genome)) {
            int gene = lesser(joint) / 2;
            int other = greater(joint) / 2;
            looseEnds[gene]--;
            looseEnds[other]--;
            int from = chromosome[other];
            for (int g = 0; g < 4; g++) {
                if (chromosome[g] == from) {
                    chromosome[g] = chromosome[gene];
                }
            }
        }
        int count = 0;
        for (int name = 0; name < 4; name++) {
            int genes = 0;
            int loose = 0;
            for (int g = 0; g < 4; g++) {
                if (chromosome[g] == name) {
                    genes++;
                    loose += looseEnds[g];
                }
            }
            if (genes > 0 && (!onlyRound || loose == 0)) {
                count++;
            }
        }
        return count;
    }

    int genomeIn(int s) {
        return slots[s];
    }

    void put(int s, int genome) {
        slots[s] = genome;
    }

    int join(int s, int a, int b) {
        if (!isSlot(s) || !isEnd(a) || !isEnd(b) || a == b) {
            return BAD_ARG;
        }
        if (mate(s, a) != NONE || mate(s, b) != NONE) {
            return NONE;
        }
        change(s, List.of(), List.of(joint(a, b)));
        return joints(s);
    }

    int cut(int s, int a) {
        if (!isSlot(s) || !isEnd(a)) {
            return BAD_ARG;
        }
        int b = mate(s, a);
        if (b == NONE) {
            return NONE;
        }
        change(s, List.of(joint(a, b)), List.of());
        return b;
    }

    int cross(int s, int a, int c) {
        if (!isSlot(s) || !isEnd(a) || !isEnd(c)) {
            return BAD_ARG;
        }
        int b = mate(s, a);
        int d = mate(s, c);
        if (b == NONE || d == NONE || a == c || a == d) {
            return NONE;
        }
        change(s, List.of(joint(a, b), joint(c, d)), List.of(joint(a, c), joint(b, d)));
        return 0;
    }

    int shift(int s, int a, int c) {
        if (!isSlot(s) || !isEnd(a) || !isEnd(c)) {
            return BAD_ARG;
        }
        int b = mate(s, a);
        if (b == NONE || mate(s, c) != NONE) {
            return NONE;
        }
        change(s, List.of(joint(a, b)), List.of(joint(a, c)));
        return b;
    }

    int copy(int s, int r) {
        if (!isSlot(s) || !isSlot(r)) {
            return BAD_ARG;
        }
        slots[s] = slots[r];
        return joints(s);
    }

    int partner(int s, int a) {
        if (!isSlot(s)) {
            return BAD_ARG;
        }
        return mate(s, a);
    }

    int joints(int s) {
        return isSlot(s) ? jointsOf(slots[s]).size() : BAD_ARG;
    }

    int chromosomes(int s) {
        return isSlot(s) ? chromosomesOf(slots[s], false) : BAD_ARG;
    }

    int round(int s) {
        return isSlot(s) ? chromosomesOf(slots[s], true) : BAD_ARG;
    }

    int distance(int s, int r) {
        return isSlot(s) && isSlot(r) ? distanceOf(slots[s], slots[r]) : BAD_ARG;
    }

    int nearer(int s, int r) {
        return isSlot(s) && isSlot(r) ? nearerOf(slots[s], slots[r]) : BAD_ARG;
    }

    int steps(int s) {
        return isSlot(s) ? stepsOf(slots[s]) : BAD_ARG;
    }

    int approach(int s, int r) {
        if (!isSlot(s) || !isSlot(r)) {
            return BAD_ARG;
        }
        if (slots[s] == slots[r]) {
            return NONE;
        }
        TreeSet<String> toMake = new TreeSet<>(jointsOf(slots[r]));
        toMake.removeAll(jointsOf(slots[s]));
        if (toMake.isEmpty()) {
            TreeSet<String> toCut = new TreeSet<>(jointsOf(slots[s]));
            toCut.removeAll(jointsOf(slots[r]));
            cut(s, lesser(toCut.first()));
        } else {
            makeAsItFits(s, lesser(toMake.first()), greater(toMake.first()));
        }
        return distance(s, r);
    }

    int middle() {
        int least = Integer.MAX_VALUE;
        for (int genome = 0; genome < genomes(); genome++) {
            least = Math.min(least, sumOf(genome));
        }
        return least;
    }

    int middles() {
        int least = middle();
        int count = 0;
        for (int genome = 0; genome < genomes(); genome++) {
            if (sumOf(genome) == least) {
                count++;
            }
        }
        return count;
    }

    boolean onTheWay(int s, int r, int d, int n) {
        if (!isSlot(s) || !isSlot(r)) {
            return false;
        }
        for (int genome = 0; genome < genomes(); genome++) {
            boolean asFar = distanceOf(slots[s], genome) == d
                    && (long) distanceOf(genome, slots[r]) == (long) distance(s, r) - d;
            if (asFar && jointsOf(genome).size() == n) {
                return true;
            }
        }
        return false;
    }

    private void makeAsItFits(int s, int a, int b) {
        if (mate(s, a) != NONE && mate(s, b) != NONE) {
            cross(s, a, b);
        } else if (mate(s, a) != NONE) {
            shift(s, a, b);
        } else if (mate(s, b) != NONE) {
            shift(s, b, a);
        } else {
            join(s, a, b);
        }
    }

    private int sumOf(int genome) {
        int sum = 0;
        for (int s = 0; s < SLOTS; s++) {
            sum += distanceOf(genome, slots[s]);
        }
        return sum;
    }

    private int mate(int s, int a) {
        return mateIn(jointsOf(slots[s]), a);
    }

    private void change(int s, List<String> out, List<String> in) {
        slots[s] = numberOf(changed(jointsOf(slots[s]), out, in));
    }

    private static boolean isSlot(int s) {
        return 0 <= s && s <= 2;
    }

    private static boolean isEnd(int a) {
        return 0 <= a && a <= 7;
    }

    private static String joint(int a, int b) {
        return Math.min(a, b) + "" + Math.max(a, b);
    }

    static int lesser(String joint) {
        return joint.charAt(0) - '0';
    }

    static int greater(String joint) {
        return joint.charAt(1) - '0';
    }

    private static int mateIn(TreeSet<String> genome, int a) {
        for (String joint : genome) {
            if (lesser(joint) == a) {
                return greater(joint);
            }
            if (greater(joint) == a) {
                return lesser(joint);
            }
        }
        return NONE;
    }

    private static TreeSet<String> changed(TreeSet<String> genome, List<String> out, List<String> in) {
        TreeSet<String> result = new TreeSet<>(genome);
        result.removeAll(out);
        result.addAll(in);
        return result;
    }

    private static int numberOf(TreeSet<String> genome) {
        Integer number = NUMBERS.get(genome);
        if (number == null) {
            number = GENOMES.size();
            NUMBERS.put(genome, number);
            GENOMES.add(genome);
        }
        return number;
    }

    private static int[] reachedByOneStep(TreeSet<String> genome) {
        TreeSet<Integer> reached = new TreeSet<>();
        for (int a = 0; a < 8; a++) {
            int b = mateIn(genome, a);
            if (b != NONE) {
                reached.add(numberOf(changed(genome, List.of(joint(a, b)), List.of())));
            }
            for (int c = 0; c < 8; c++) {
                if (c != a && c != b) {
                    reached.addAll(reachedByJoining(genome, a, c));
                }
            }
        }
        return reached.stream().mapToInt(Integer::intValue).toArray();
    }

    private static List<Integer> reachedByJoining(TreeSet<String> genome, int a, int c) {
        int b = mateIn(genome, a);
        int d = mateIn(genome, c);
        if (b != NONE && d != NONE) {
            List<String> out = List.of(joint(a, b), joint(c, d));
            return List.of(numberOf(changed(genome, out, List.of(joint(a, c), joint(b, d)))));
        }
        if (b != NONE) {
            return List.of(numberOf(changed(genome, List.of(joint(a, b)), List.of(joint(a, c)))));
        }
        if (d != NONE) {
            return List.of();
        }
        return List.of(numberOf(changed(genome, List.of(), List.of(joint(a, c)))));
    }

    private static int[] distancesFrom(int start) {
        int[] distance = new int[GENOMES.size()];
        Arrays.fill(distance, -1);
        distance[start] = 0;
        Deque<Integer> queue = new ArrayDeque<>();
        queue.add(start);
        while (!queue.isEmpty()) {
            int genome = queue.remove();
            for (int next : NEIGHBOURS.get(genome)) {
                if (distance[next] < 0) {
                    distance[next] = distance[genome] + 1;
                    queue.add(next);
                }
            }
        }
        return distance;
    }
}
