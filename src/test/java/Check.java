/** Counts the answers that are not as due, and ends a test with exit code 1 if there were any. */
final class Check {
    /** How many calls dueSlots makes on the object. */
    static final int CALLS_OF_DUE_SLOTS = 36;

    private static final int MOST_SHOWN = 20;
    private static final int NONE = -4;

    private int wrong = 0;
    private int checked = 0;

    void due(String call, long got, long want) {
        checked++;
        if (got == want) {
            return;
        }
        wrong++;
        if (wrong <= MOST_SHOWN) {
            System.out.println(call + " answered " + got + ", due is " + want);
        }
    }

    void due(String call, boolean got, boolean want) {
        due(call, got ? 1 : 0, want ? 1 : 0);
    }

    /** The genome of a slot as its ends' partners, "." for a loose one. */
    void dueGenome(String after, GenomeJoins x, int s, String want) {
        for (int a = 0; a < 8; a++) {
            int partner = want.charAt(a) == '.' ? NONE : want.charAt(a) - '0';
            due(after + ": then partner(" + s + ", " + a + ")", x.partner(s, a), partner);
        }
    }

    /** All three genomes are the model's, as partner, joints and distance show them. */
    void dueSlots(String after, GenomeJoins x, Model model) {
        for (int s = 0; s < Model.SLOTS; s++) {
            for (int a = 0; a < 8; a++) {
                due(after + ": then partner(" + s + ", " + a + ")", x.partner(s, a), model.partner(s, a));
            }
            due(after + ": then joints(" + s + ")", x.joints(s), model.joints(s));
            for (int r = 0; r < Model.SLOTS; r++) {
                due(after + ": then distance(" + s + ", " + r + ")", x.distance(s, r), model.distance(s, r));
            }
        }
    }

    void end() {
        System.out.println(checked + " answers looked at, " + wrong + " of them wrong");
        if (wrong != 0 || checked == 0) {
            System.exit(1);
        }
    }
}
