/** Counts answers that are not as due, and tells each of them. */
public final class Due {
    private int wrong = 0;
    private int asked = 0;
    private String test = "";

    /** The test that the next answers belong to. */
    public void begin(String name) {
        test = name + ": ";
    }

    public void is(String what, long got, long want) {
        asked++;
        if (got != want) {
            fail(what + " answered " + got + ", due is " + want);
        }
    }

    public void fail(String why) {
        wrong++;
        System.out.println(test + why);
    }

    public void end() {
        System.out.println(asked + " answers, " + wrong + " not as due");
        if (wrong != 0) {
            System.exit(1);
        }
    }
}
