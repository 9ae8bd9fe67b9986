/** Counts the answers that are not as due; a test ends with it. */
final class Checks {
    /** Far more than any test needs, on a slow machine too. */
    private static final long MOST_MILLIS = 180_000;

    private final String test;
    private int asked = 0;
    private int wrong = 0;

    Checks(String test) {
        this.test = test;
        Thread watch = new Thread(this::failInTheEnd);
        watch.setDaemon(true);
        watch.start();
    }

    /** A call that does not end is wrong as well: it must not keep all other tests waiting. */
    private void failInTheEnd() {
        try {
            Thread.sleep(MOST_MILLIS);
        } catch (InterruptedException e) {
            return;
        }
        System.out.println(test + ": does not end");
        Runtime.getRuntime().halt(1);
    }

    void due(String call, long got, long want) {
        asked++;
        if (got != want) {
            wrong++;
            System.out.println(test + ": " + call + " answered " + got + ", due is " + want);
        }
    }

    void holds(String what, boolean so) {
        asked++;
        if (!so) {
            wrong++;
            System.out.println(test + ": does not hold: " + what);
        }
    }

    /** A call that is refused with a FINDING, which finding() must tell. */
    void finds(PaperBodies x, String call, long got, int finding) {
        due(call, got, PaperBodies.FINDING);
        due("finding() behind " + call, x.finding(), finding);
    }

    void end() {
        System.out.println(test + ": " + asked + " checks, " + wrong + " wrong");
        if (wrong != 0) {
            System.exit(1);
        }
    }
}
