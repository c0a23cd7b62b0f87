/** Long runs of calls, with right and wrong arguments mixed, against the model: all promises. */
public final class RunsTest {
    private static final int MOST_CALLS = 512;
    private static final int[] WRONG = {-1, 3, 8, 9, -2, -8, 64, 255, 256, Integer.MAX_VALUE, Integer.MIN_VALUE};

    private static final Check CHECK = new Check();

    // A fixed sequence, so that a run that fails can be run again.
    private static long seed = 20261115L;

    public static void main(String[] args) {
        for (int run = 0; run < 150; run++) {
            longRun("long run " + run);
        }
        for (int run = 0; run < 400; run++) {
            runThatLooksAtEverything("close run " + run);
        }
        CHECK.end();
    }

    private static int below(int bound) {
        seed = seed * 6364136223846793005L + 1442695040888963407L;
        return (int) ((seed >>> 33) % bound);
    }

    /** Seldom wrong, so that most calls do something. */
    private static int argument(int bound) {
        return below(40) == 0 ? WRONG[below(WRONG.length)] : below(bound);
    }

    private static void longRun(String run) {
        GenomeJoins x = new GenomeJoins();
        Model model = new Model();
        for (int call = 0; call < MOST_CALLS; call++) {
            oneCall(run + ", call " + call + ": ", x, model);
        }
    }

    private static void runThatLooksAtEverything(String run) {
        GenomeJoins x = new GenomeJoins();
        Model model = new Model();
        int calls = 0;
        for (int s = 0; s < Model.SLOTS; s++) {
            int genome = below(Model.genomes());
            model.put(s, genome);
            for (String joint : Model.jointsOf(genome)) {
                x.join(s, Model.lesser(joint), Model.greater(joint));
                calls++;
            }
        }
        for (int call = 0; calls + 1 + Check.CALLS_OF_DUE_SLOTS <= MOST_CALLS; call++) {
            String at = run + ", call " + call + ": ";
            oneCall(at, x, model);
            CHECK.dueSlots(at + "that call", x, model);
            calls += 1 + Check.CALLS_OF_DUE_SLOTS;
        }
    }

    private static void oneCall(String at, GenomeJoins x, Model model) {
        int s = argument(3);
        int r = argument(3);
        int a = argument(8);
        int b = argument(8);
        int kind = below(24);
        String pair = "(" + s + ", " + r + ")";
        String ends = "(" + s + ", " + a + ", " + b + ")";
        switch (kind) {
            case 0, 1, 2, 3, 4, 5, 6 -> CHECK.due(at + "join" + ends, x.join(s, a, b), model.join(s, a, b));
            case 7 -> CHECK.due(at + "cut(" + s + ", " + a + ")", x.cut(s, a), model.cut(s, a));
            case 8, 9 -> CHECK.due(at + "cross" + ends, x.cross(s, a, b), model.cross(s, a, b));
            case 10, 11 -> CHECK.due(at + "shift" + ends, x.shift(s, a, b), model.shift(s, a, b));
            case 12 -> CHECK.due(at + "copy" + pair, x.copy(s, r), model.copy(s, r));
            case 13 -> CHECK.due(at + "partner(" + s + ", " + a + ")", x.partner(s, a), model.partner(s, a));
            case 14 -> CHECK.due(at + "joints(" + s + ")", x.joints(s), model.joints(s));
            case 15 -> CHECK.due(at + "chromosomes(" + s + ")", x.chromosomes(s), model.chromosomes(s));
            case 16 -> CHECK.due(at + "round(" + s + ")", x.round(s), model.round(s));
            case 17 -> CHECK.due(at + "distance" + pair, x.distance(s, r), model.distance(s, r));
            case 18 -> CHECK.due(at + "nearer" + pair, x.nearer(s, r), model.nearer(s, r));
            case 19 -> CHECK.due(at + "steps(" + s + ")", x.steps(s), model.steps(s));
            case 20 -> CHECK.due(at + "approach" + pair, x.approach(s, r), model.approach(s, r));
            case 21 -> CHECK.due(at + "middle()", x.middle(), model.middle());
            case 22 -> CHECK.due(at + "middles()", x.middles(), model.middles());
            default -> onTheWay(at, x, model, s, r);
        }
    }

    private static void onTheWay(String at, GenomeJoins x, Model model, int s, int r) {
        int d = argument(5);
        int n = argument(5);
        String call = at + "onTheWay(" + s + ", " + r + ", " + d + ", " + n + ")";
        CHECK.due(call, x.onTheWay(s, r, d, n), model.onTheWay(s, r, d, n));
    }
}
