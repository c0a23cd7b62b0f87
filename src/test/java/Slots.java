/** Three genomes, each written as its joints ("01 25"), in a new object or in a new model. */
final class Slots {
    private interface Join {
        int on(int s, int a, int b);
    }

    private Slots() {
    }

    static GenomeJoins with(String zero, String one, String two) {
        GenomeJoins x = new GenomeJoins();
        fill(x::join, zero, one, two);
        return x;
    }

    static Model modelWith(String zero, String one, String two) {
        Model model = new Model();
        fill(model::join, zero, one, two);
        return model;
    }

    /** A genome in one slot of a new object; the other two have no joint. */
    static GenomeJoins withOne(int s, String genome) {
        return with(s == 0 ? genome : "", s == 1 ? genome : "", s == 2 ? genome : "");
    }

    private static void fill(Join join, String... genomes) {
        for (int s = 0; s < genomes.length; s++) {
            for (String joint : genomes[s].split(" ")) {
                if (!joint.isEmpty()) {
                    join.on(s, Model.lesser(joint), Model.greater(joint));
                }
            }
        }
    }
}
