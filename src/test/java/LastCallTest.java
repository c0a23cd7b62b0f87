/**
 * "An object is used for at most 512 calls after it has been made": the 512th, of each kind,
 * still answers as it would have before.
 */
public final class LastCallTest {
    private static final int BAD_ARG = -1;
    private static final int NONE = -4;
    private static final int LAST = 512;
    private static final String[] GENOMES = {"", "01 25", "07 12 34 56"};
    private static final int CALLS_TO_FILL = 6;

    private static final Check CHECK = new Check();

    private interface Call {
        int on(GenomeJoins x);
    }

    public static void main(String[] args) {
        changes();
        refusals();
        answersThatChangeNothing();
        joinAndCutInTurn();
        crossInTurn();
        shiftInTurn();
        approachInTurn();
        CHECK.end();
    }

    /** The call comes as the 512th, after calls that, taken together, leave the genomes as they are. */
    private static void dueAtTheLast(String call, int due, Call made) {
        GenomeJoins x = Slots.with(GENOMES[0], GENOMES[1], GENOMES[2]);
        for (int number = CALLS_TO_FILL + 1; number < LAST; number++) {
            callThatChangesNothing(x, number);
        }
        CHECK.due("the 512th call, " + call, made.on(x), due);
    }

    /** The joint that call 7 makes in slot 0 is cut by call 9, and so on, last by call 509. */
    private static void callThatChangesNothing(GenomeJoins x, int number) {
        switch (number % 10) {
            case 7 -> CHECK.due("call " + number + ", join", x.join(0, 6, 7), 1);
            case 8 -> x.middles();
            case 9 -> CHECK.due("call " + number + ", cut", x.cut(0, 7), 6);
            case 0 -> x.nearer(1, 2);
            case 1 -> x.onTheWay(2, 1, 2, 3);
            case 2 -> x.join(2, 0, 1);
            case 3 -> x.distance(1, 2);
            case 4 -> x.approach(2, 2);
            case 5 -> x.copy(1, 1);
            default -> x.partner(3, 8);
        }
    }

    private static void changes() {
        dueAtTheLast("promise 2: join", 3, x -> x.join(1, 7, 3));
        dueAtTheLast("promise 2: join, the first joint", 1, x -> x.join(0, 7, 3));
        dueAtTheLast("promise 3: cut", 5, x -> x.cut(1, 2));
        dueAtTheLast("promise 4: cross", 0, x -> x.cross(1, 1, 2));
        dueAtTheLast("promise 5: shift", 1, x -> x.shift(1, 0, 7));
        dueAtTheLast("promise 6: copy", 4, x -> x.copy(0, 2));
        dueAtTheLast("promise 14: approach", 3, x -> x.approach(0, 2));
    }

    private static void refusals() {
        dueAtTheLast("promise 2: join", BAD_ARG, x -> x.join(1, 7, 8));
        dueAtTheLast("promise 2: join", NONE, x -> x.join(1, 0, 7));
        dueAtTheLast("promise 3: cut", BAD_ARG, x -> x.cut(1, -1));
        dueAtTheLast("promise 3: cut", NONE, x -> x.cut(0, 7));
        dueAtTheLast("promise 4: cross", BAD_ARG, x -> x.cross(1, 0, 8));
        dueAtTheLast("promise 4: cross", NONE, x -> x.cross(1, 0, 1));
        dueAtTheLast("promise 5: shift", BAD_ARG, x -> x.shift(1, -1, 7));
        dueAtTheLast("promise 5: shift", NONE, x -> x.shift(2, 0, 6));
        dueAtTheLast("promise 6: copy", BAD_ARG, x -> x.copy(1, 3));
        dueAtTheLast("promise 7: partner", BAD_ARG, x -> x.partner(3, 0));
        dueAtTheLast("promise 7: partner", NONE, x -> x.partner(0, 7));
        dueAtTheLast("promise 14: approach", NONE, x -> x.approach(1, 1));
        dueAtTheLast("promise 17: onTheWay", 0, x -> x.onTheWay(3, 2, 0, 0) ? 1 : 0);
    }

    private static void answersThatChangeNothing() {
        dueAtTheLast("promise 7: partner", 5, x -> x.partner(1, 2));
        dueAtTheLast("promise 8: joints", 4, x -> x.joints(2));
        dueAtTheLast("promise 9: chromosomes", 3, x -> x.chromosomes(1));
        dueAtTheLast("promise 10: round", 1, x -> x.round(1));
        dueAtTheLast("promise 11: distance", 4, x -> x.distance(2, 0));
        dueAtTheLast("promise 12: nearer", 4, x -> x.nearer(0, 2));
        dueAtTheLast("promise 13: steps", 26, x -> x.steps(1));
        Model model = Slots.modelWith(GENOMES[0], GENOMES[1], GENOMES[2]);
        dueAtTheLast("promise 15: middle", model.middle(), GenomeJoins::middle);
        dueAtTheLast("promise 16: middles", model.middles(), GenomeJoins::middles);
        dueAtTheLast("promise 17: onTheWay", 1, x -> x.onTheWay(0, 2, 3, 3) ? 1 : 0);
    }

    private static void joinAndCutInTurn() {
        GenomeJoins x = new GenomeJoins();
        for (int number = 1; number < LAST; number += 2) {
            CHECK.due("promise 2: join as call " + number, x.join(2, 0, 7), 1);
            CHECK.due("promise 3: cut as call " + (number + 1), x.cut(2, 7), 0);
        }
    }

    private static void crossInTurn() {
        GenomeJoins x = new GenomeJoins();
        x.join(1, 0, 1);
        x.join(1, 6, 7);
        for (int number = 3; number < LAST; number++) {
            CHECK.due("promise 4: cross as call " + number, x.cross(1, 0, number % 2 == 1 ? 6 : 1), 0);
        }
        CHECK.due("promise 4: the 512th call, partner", x.partner(1, 7), 1);
    }

    private static void shiftInTurn() {
        GenomeJoins x = new GenomeJoins();
        x.join(0, 0, 1);
        for (int number = 2; number <= LAST; number++) {
            int from = 1 + (number - 2) % 7;
            int to = 1 + (number - 1) % 7;
            CHECK.due("promise 5: shift as call " + number, x.shift(0, 0, to), from);
        }
    }

    /** Four steps there and a copy back, over and over. */
    private static void approachInTurn() {
        GenomeJoins x = Slots.with("", "", "07 12 34 56");
        for (int number = 5; number <= LAST; number++) {
            int turn = (number - 5) % 5;
            if (turn < 4) {
                CHECK.due("promise 14: approach as call " + number, x.approach(1, 2), 3 - turn);
            } else {
                CHECK.due("promise 6: copy as call " + number, x.copy(1, 0), 0);
            }
        }
    }
}
