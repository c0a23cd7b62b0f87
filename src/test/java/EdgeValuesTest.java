/**
 * Every call with every choice of the values at and beyond the edges of its arguments, each on a
 * new object, against the model: the answer, and the three genomes afterwards. No call ever throws.
 */
public final class EdgeValuesTest {
    private static final int[] SLOT_VALUES = {Integer.MIN_VALUE, -1, 0, 1, 2, 3, Integer.MAX_VALUE};
    private static final int[] END_VALUES = {Integer.MIN_VALUE, -1, 0, 1, 2, 5, 6, 7, 8, Integer.MAX_VALUE};
    private static final int[] WAY_VALUES = {Integer.MIN_VALUE, -1, 0, 1, 2, 3, 4, 5, Integer.MAX_VALUE};

    // Between them: no joint, all four joints, joints of one gene, and the same genome twice.
    private static final String[][] GENOMES = {
        {"", "01 25", "07 12 34 56"},
        {"01 23 45 67", "07 12 34 56", "01 23 45 67"},
        {"16", "", ""},
        {"07 56", "01 67 25", "07 56"}};

    private static final Check CHECK = new Check();

    private interface Call {
        int on(GenomeJoins x);
    }

    private interface ModelCall {
        int on(Model model);
    }

    public static void main(String[] args) {
        for (String[] genomes : GENOMES) {
            for (int s : SLOT_VALUES) {
                oneSlot(genomes, s);
                for (int end : END_VALUES) {
                    oneEnd(genomes, s, end);
                    for (int other : END_VALUES) {
                        twoEnds(genomes, s, end, other);
                    }
                }
                for (int r : SLOT_VALUES) {
                    twoSlots(genomes, s, r);
                    onTheWay(genomes, s, r);
                }
            }
        }
        CHECK.end();
    }

    private static void asTheModel(String[] genomes, String call, Call made, ModelCall due) {
        String at = String.join(" | ", genomes) + ": " + call;
        GenomeJoins x = Slots.with(genomes[0], genomes[1], genomes[2]);
        Model model = Slots.modelWith(genomes[0], genomes[1], genomes[2]);
        CHECK.due(at, made.on(x), due.on(model));
        CHECK.dueSlots(at, x, model);
    }

    private static void oneSlot(String[] genomes, int s) {
        String slot = "(" + s + ")";
        asTheModel(genomes, "promise 8: joints" + slot, x -> x.joints(s), model -> model.joints(s));
        asTheModel(genomes, "promise 9: chromosomes" + slot, x -> x.chromosomes(s), model -> model.chromosomes(s));
        asTheModel(genomes, "promise 10: round" + slot, x -> x.round(s), model -> model.round(s));
        asTheModel(genomes, "promise 13: steps" + slot, x -> x.steps(s), model -> model.steps(s));
        asTheModel(genomes, "promise 15: middle()", GenomeJoins::middle, Model::middle);
        asTheModel(genomes, "promise 16: middles()", GenomeJoins::middles, Model::middles);
    }

    private static void oneEnd(String[] genomes, int s, int a) {
        String end = "(" + s + ", " + a + ")";
        asTheModel(genomes, "promise 3: cut" + end, x -> x.cut(s, a), model -> model.cut(s, a));
        asTheModel(genomes, "promise 7: partner" + end, x -> x.partner(s, a), model -> model.partner(s, a));
    }

    private static void twoEnds(String[] genomes, int s, int a, int b) {
        String ends = "(" + s + ", " + a + ", " + b + ")";
        asTheModel(genomes, "promise 2: join" + ends, x -> x.join(s, a, b), model -> model.join(s, a, b));
        asTheModel(genomes, "promise 4: cross" + ends, x -> x.cross(s, a, b), model -> model.cross(s, a, b));
        asTheModel(genomes, "promise 5: shift" + ends, x -> x.shift(s, a, b), model -> model.shift(s, a, b));
    }

    private static void twoSlots(String[] genomes, int s, int r) {
        String slots = "(" + s + ", " + r + ")";
        asTheModel(genomes, "promise 6: copy" + slots, x -> x.copy(s, r), model -> model.copy(s, r));
        asTheModel(genomes, "promise 11: distance" + slots, x -> x.distance(s, r), model -> model.distance(s, r));
        asTheModel(genomes, "promise 12: nearer" + slots, x -> x.nearer(s, r), model -> model.nearer(s, r));
        asTheModel(genomes, "promise 14: approach" + slots, x -> x.approach(s, r), model -> model.approach(s, r));
    }

    private static void onTheWay(String[] genomes, int s, int r) {
        for (int d : WAY_VALUES) {
            for (int n : WAY_VALUES) {
                String call = "promise 17: onTheWay(" + s + ", " + r + ", " + d + ", " + n + ")";
                asTheModel(genomes, call, x -> x.onTheWay(s, r, d, n) ? 1 : 0,
                        model -> model.onTheWay(s, r, d, n) ? 1 : 0);
            }
        }
    }
}
