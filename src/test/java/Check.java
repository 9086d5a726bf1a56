/** Counts the calls of a test whose answers are due, and tells those whose answers are not. */
class Check {
    private final String name;
    private String promise = "";
    private int right = 0;
    private int wrong = 0;

    Check(String name) {
        this.name = name;
    }

    void promise(int number) {
        promise = "promise " + number + ": ";
    }

    void due(String call, long got, long want) {
        if (got == want) {
            right++;
        } else {
            wrong++;
            if (wrong <= 40) {
                System.out.println(name + ": " + promise + call + " answered " + got + ", due is " + want);
            }
        }
    }

    void holds(String what, boolean is) {
        due(what, is ? 1 : 0, 1);
    }

    void finish() {
        System.out.println(name + ": " + right + " right, " + wrong + " wrong");
        if (wrong != 0) {
            System.exit(1);
        }
    }
}
