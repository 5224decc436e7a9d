/** Programs as texts: "k01 s00 l11" is a core with the instructions ('k', 0, 1), ('s', 0, 0), ('l', 1, 1). */
final class Programs {
    private Programs() {
    }

    static Fencegate gate(String... cores) {
        Fencegate gate = new Fencegate();
        fill(gate, cores);
        return gate;
    }

    static void fill(Fencegate gate, String... cores) {
        for (int core = 0; core < 3; core++) {
            gate.clear(core);
            if (core < cores.length && !cores[core].isEmpty()) {
                for (String text : cores[core].split(" ")) {
                    gate.add(core, text.charAt(0), number(text, 1), number(text, 2), number(text, 3));
                }
            }
        }
    }

    private static int number(String text, int at) {
        return at < text.length() ? text.charAt(at) - '0' : 0;
    }
}
