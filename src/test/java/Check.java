/** Counts what is not as due, and ends the test's program by that. */
final class Check {
    private final String test;
    private String part = "";
    private int asked;
    private int wrong;

    Check(String test) {
        this.test = test;
    }

    /** Names the part of the test that what is asked now belongs to. */
    void inside(String name) {
        part = name.isEmpty() ? "" : "." + name;
    }

    void due(String call, long got, long want) {
        asked++;
        if (got != want) {
            wrong++;
            System.out.println(test + part + ": " + call + " answered " + got + ", due is " + want);
        }
    }

    /** place(contract, i) has to throw, and just the exception that the document names. */
    void dueNoPlace(ContractLoaders x, int contract, int i) {
        String thrown = "nothing";
        try {
            x.place(contract, i);
        } catch (RuntimeException e) {
            thrown = e.getClass().getSimpleName();
        }
        due("place(" + contract + ", " + i + ") throws IllegalArgumentException (it threw " + thrown + ")",
                thrown.equals("IllegalArgumentException") ? 1 : 0, 1);
    }

    void end() {
        System.out.println(test + ": " + asked + " answers, " + wrong + " not as due");
        if (wrong != 0) {
            System.exit(1);
        }
    }
}
