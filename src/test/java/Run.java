import java.util.ArrayList;
import java.util.List;

/**
 * A run of calls on a new room, a row each as Calls has them, with the answer that is due behind a "=",
 * or without it if any will do but a refusal. Behind each refused call the run is made twice again, with
 * it and without any refused one, and both rooms must show the same.
 */
final class Run {

    private static final int MOST_CALLS = 512;
    private static final String DUE = " = ";

    private final Checks checks;
    private final String name;
    private final List<String> calls = new ArrayList<>();
    private final List<String> taken = new ArrayList<>();
    private final RehearsalRoom room = new RehearsalRoom();

    private Run(Checks checks, String name) {
        this.checks = checks;
        this.name = name;
    }

    static void due(Checks checks, String name, String rows) {
        Run run = new Run(checks, name);
        for (String row : Calls.rows(rows)) {
            int end = row.indexOf(DUE);
            run.make(end < 0 ? row : row.substring(0, end), end < 0 ? "" : row.substring(end + DUE.length()));
        }
        run.dueWithin(run.calls.size());
    }

    /** For a call that asks of one rehearsal: on an empty day, with one rehearsal, with 13, with 14 and with 13 again. */
    static void dueNoSuchRehearsal(Checks checks, String promise, String call) {
        due(checks, promise + ": no such rehearsal", """
                CALL 0 = throws.IndexOutOfBoundsException
                CALL -1 = throws.IndexOutOfBoundsException
                CALL MIN = throws.IndexOutOfBoundsException
                CALL MAX = throws.IndexOutOfBoundsException
                add 8 12 7 = 0
                CALL 0
                CALL 1 = throws.IndexOutOfBoundsException
                CALL -1 = throws.IndexOutOfBoundsException
                12 times: add 12 20 5
                CALL 12
                CALL 13 = throws.IndexOutOfBoundsException
                add 95 96 1 = 13
                CALL 13
                CALL 14 = throws.IndexOutOfBoundsException
                CALL 32 = throws.IndexOutOfBoundsException
                CALL -1 = throws.IndexOutOfBoundsException
                CALL MIN = throws.IndexOutOfBoundsException
                CALL MAX = throws.IndexOutOfBoundsException
                undo
                CALL 13 = throws.IndexOutOfBoundsException
                """.replace("CALL", call));
    }

    /** Behind the last call that is promised all answers are free. */
    private void dueWithin(int made) {
        checks.due(name + ": more calls than are promised", made > MOST_CALLS, false);
    }

    private void make(String call, String want) {
        String got = Calls.answer(room, call);
        calls.add(call);
        if (want.isEmpty()) {
            checks.due(name + ": " + call + ", refused with " + got, Calls.isRefusal(got), false);
        } else {
            checks.dueText(name + ": " + call, got, want);
        }
        if (Calls.isRefusal(got)) {
            List<String> shown = shown(calls);
            Shown.dueAlike(checks, name + ": behind " + call, shown, shown(taken));
            dueWithin(calls.size() + shown.size());
        } else {
            taken.add(call);
        }
    }

    private static List<String> shown(List<String> calls) {
        return Shown.of(Calls.made(new RehearsalRoom(), calls));
    }
}
