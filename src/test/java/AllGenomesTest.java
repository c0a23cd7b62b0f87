/** Every genome, and every pair of genomes, against the model: promises 7 to 14. */
public final class AllGenomesTest {
    private static final int MOST_CALLS = 512;
    private static final int CALLS_A_PAIR = 8;

    private static final Check CHECK = new Check();

    public static void main(String[] args) {
        CHECK.due("the number of genomes", Model.genomes(), 764);
        for (int genome = 0; genome < Model.genomes(); genome++) {
            lookAt(genome);
            distancesFrom(genome);
        }
        // Every 101st pair: nearer is too slow for all of them, and 101 is no divisor of 764.
        for (int pair = 0; pair < Model.genomes() * Model.genomes(); pair += 101) {
            nearerAndApproach(pair / Model.genomes(), pair % Model.genomes());
        }
        CHECK.end();
    }

    private static int fill(GenomeJoins x, int s, int genome) {
        for (String joint : Model.jointsOf(genome)) {
            x.join(s, Model.lesser(joint), Model.greater(joint));
        }
        return Model.jointsOf(genome).size();
    }

    private static void lookAt(int genome) {
        GenomeJoins x = new GenomeJoins();
        Model model = new Model();
        model.put(1, genome);
        fill(x, 1, genome);
        String of = " of " + Model.jointsOf(genome);
        for (int a = 0; a < 8; a++) {
            CHECK.due("partner " + a + of, x.partner(1, a), model.partner(1, a));
        }
        CHECK.due("joints" + of, x.joints(1), model.joints(1));
        CHECK.due("chromosomes" + of, x.chromosomes(1), model.chromosomes(1));
        CHECK.due("round" + of, x.round(1), model.round(1));
        CHECK.due("steps" + of, x.steps(1), model.steps(1));
    }

    private static void distancesFrom(int genome) {
        GenomeJoins x = new GenomeJoins();
        int calls = fill(x, 0, genome);
        for (int other = 0; other < Model.genomes(); other++) {
            if (calls + CALLS_A_PAIR > MOST_CALLS) {
                x = new GenomeJoins();
                calls = fill(x, 0, genome);
            }
            // Slot 2 stays without a joint, so that copying it clears slot 1.
            x.copy(1, 2);
            fill(x, 1, other);
            int due = Model.distanceOf(genome, other);
            String between = " between " + Model.jointsOf(genome) + " and " + Model.jointsOf(other);
            CHECK.due("distance" + between, x.distance(0, 1), due);
            CHECK.due("distance back" + between, x.distance(1, 0), due);
            calls += CALLS_A_PAIR;
        }
    }

    private static void nearerAndApproach(int genome, int goal) {
        GenomeJoins x = new GenomeJoins();
        fill(x, 2, genome);
        fill(x, 1, goal);
        Model model = new Model();
        model.put(2, genome);
        model.put(1, goal);
        String way = " from " + Model.jointsOf(genome) + " to " + Model.jointsOf(goal);
        CHECK.due("nearer" + way, x.nearer(2, 1), model.nearer(2, 1));
        int left = model.distance(2, 1);
        for (int step = 0; step < 6; step++) {
            left--;
            int due = model.approach(2, 1);
            CHECK.due("the model's step " + step + way, due, left < 0 ? Model.NONE : left);
            CHECK.due("approach, step " + step + way, x.approach(2, 1), due);
            for (int a = 0; a < 8; a++) {
                CHECK.due("partner " + a + " after step " + step + way, x.partner(2, a), model.partner(2, a));
                CHECK.due("partner " + a + " of the goal" + way, x.partner(1, a), model.partner(1, a));
            }
        }
    }
}
