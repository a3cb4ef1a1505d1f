/** Counts answers that are not due, in the manner of the tests under ../shared/tests. */
final class Checks {

    interface Call {
        void make();
    }

    private int made = 0;
    private int wrong = 0;

    void due(String call, long got, long want) {
        made++;
        if (got != want) {
            fault(call + " answered " + got + ", due is " + want);
        }
    }

    void due(String call, boolean got, boolean want) {
        made++;
        if (got != want) {
            fault(call + " answered " + got + ", due is " + want);
        }
    }

    /** Floats too: each is a double to the bit. */
    void dueBits(String call, double got, double want) {
        made++;
        if (Double.doubleToLongBits(got) != Double.doubleToLongBits(want)) {
            fault(call + " answered " + got + ", due is " + want);
        }
    }

    void dueText(String call, String got, String want) {
        made++;
        if (!got.equals(want)) {
            fault(call + " answered " + got + ", due is " + want);
        }
    }

    /** The call must throw this very exception, and the digest must stay as it was. */
    void refused(RehearsalRoom room, String name, Class<? extends RuntimeException> want, Call call) {
        made++;
        long before = room.digest();
        String got = "nothing";
        try {
            call.make();
        } catch (RuntimeException thrown) {
            got = thrown.getClass().getName();
        }
        if (!got.equals(want.getName())) {
            fault(name + " threw " + got + ", due is " + want.getName());
        }
        if (room.digest() != before) {
            fault(name + " threw, but changed the state");
        }
    }

    void refusedIndex(RehearsalRoom room, String name, Call call) {
        refused(room, name, IndexOutOfBoundsException.class, call);
    }

    void refusedArgument(RehearsalRoom room, String name, Call call) {
        refused(room, name, IllegalArgumentException.class, call);
    }

    void refusedState(RehearsalRoom room, String name, Call call) {
        refused(room, name, IllegalStateException.class, call);
    }

    private void fault(String text) {
        wrong++;
        if (wrong <= 50) {
            System.out.println(text);
        }
    }

    void end() {
        System.out.println(made + " checks, " + wrong + " wrong");
        if (wrong > 0 || made == 0) {
            System.exit(1);
        }
    }
}
