/** Counts answers that are not the ones that are due. */
final class Due {
    private final String of;
    private int told;
    private int wrong;

    Due(String of) {
        this.of = of;
    }

    void is(String what, long got, long due) {
        told++;
        if (got != due) {
            wrong++;
            System.out.println(of + ": " + what + " answered " + got + ", due is " + due);
        }
    }

    void is(String what, boolean got, boolean due) {
        is(what, got ? 1 : 0, due ? 1 : 0);
    }

    void close() {
        System.out.println(of + ": " + told + " answers, " + wrong + " wrong");
        if (wrong > 0 || told == 0) {
            System.exit(1);
        }
    }
}
