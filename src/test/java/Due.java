/** Compares answers with those that are due, prints each that is not, and ends with 1 if any was not. */
final class Due {
    private int wrong;
    private int asked;
    private String about = "";

    void about(String what) {
        about = what;
    }

    void is(String call, int got, int want) {
        look(got == want, call + " answered " + got + ", due is " + want);
    }

    void is(String what, String got, String want) {
        look(got.equals(want), what + " is [" + got + "], due is [" + want + "]");
    }

    void holds(String otherwise, boolean so) {
        look(so, otherwise);
    }

    private void look(boolean so, String otherwise) {
        asked++;
        if (!so) {
            wrong++;
            System.out.println(about + ": " + otherwise);
        }
    }

    boolean hasWrong() {
        return wrong != 0;
    }

    int asked() {
        return asked;
    }

    void end() {
        System.out.println(asked + " answers looked at, " + wrong + " not as due");
        if (wrong != 0) {
            System.exit(1);
        }
    }
}
