import java.util.List;

/** "Exceptions" of the terms: which one is thrown if several apply, and that nothing is changed by it. */
public final class ExceptionsEdgesTest {

    private static final Checks CHECKS = new Checks();

    private static final String EMPTY = "";

    private static final String SOME = """
            add 80 90 9
            keep 1
            add 10 20 5
            add 30 40 6
            changePause 2
            book 1
            type 8-12*5;20-10*6
            """;

    private static final String FULL = """
            add 0 10 50
            add 10 20 40
            add 90 96 30
            11 times: add 5 15 20
            book 0
            keep 0
            book 2
            keep 1
            book 1
            type 11-12*50;11-12*50;11-12*50;11-12*50;11-12*50;10-12*30;1-2*34
            """;

    private static final int[] NUMBERS = {
        Integer.MIN_VALUE, -1, 0, 1, 2, 3, 5, 13, 14, 32, 50, 51, 95, 96, 97, Integer.MAX_VALUE,
    };
    private static final int[] FEWER = {Integer.MIN_VALUE, -1, 0, 1, 3, 14, 51, 95, 96, 97, Integer.MAX_VALUE};

    private static final String[] ONE_ARGUMENT = {
        "strike", "changePause", "book", "cancel", "append", "keep", "goBack", "beginOf", "endOf", "fameOf",
        "famePerQuarter", "isBooked", "conflictsOf", "roomOf", "bestWith",
    };

    public static void main(String[] args) {
        exceptionsAddTheFirstThatIsNamed();
        exceptionsMoveTheFirstThatIsNamed();
        exceptionsChangeFameTheFirstThatIsNamed();
        exceptionsChangePauseTheFirstThatIsNamed();
        exceptionsBookAndCancelTheFirstThatIsNamed();
        exceptionsAppendTheFirstThatIsNamed();
        exceptionsReadTheFirstThatIsNamed();
        exceptionsGoBackTheFirstThatIsNamed();
        for (String day : new String[] {EMPTY, SOME, FULL}) {
            eachCallOn(day);
        }
        CHECKS.end();
    }

    private static void exceptionsAddTheFirstThatIsNamed() {
        Run.due(CHECKS, "Exceptions: add, out of range and 14 rehearsals", FULL + """
                add 0 1 1 = throws.IllegalStateException
                add -1 1 1 = throws.IllegalArgumentException
                add 1 1 1 = throws.IllegalArgumentException
                add 0 1 51 = throws.IllegalArgumentException
                """);
    }

    private static void exceptionsMoveTheFirstThatIsNamed() {
        Run.due(CHECKS, "Exceptions: move, no such rehearsal, out of range and in conflict", FULL + """
                move 0 10 11 = throws.IllegalStateException
                move 0 10 10 = throws.IllegalArgumentException
                move 0 10 97 = throws.IllegalArgumentException
                move 14 10 10 = throws.IndexOutOfBoundsException
                move 14 10 11 = throws.IndexOutOfBoundsException
                move -1 -1 97 = throws.IndexOutOfBoundsException
                """);
    }

    private static void exceptionsChangeFameTheFirstThatIsNamed() {
        Run.due(CHECKS, "Exceptions: changeFame, no such rehearsal and out of range", FULL + """
                changeFame 13 51 = throws.IllegalArgumentException
                changeFame 14 51 = throws.IndexOutOfBoundsException
                changeFame -1 0 = throws.IndexOutOfBoundsException
                """);
    }

    private static void exceptionsChangePauseTheFirstThatIsNamed() {
        Run.due(CHECKS, "Exceptions: changePause, out of range and in conflict", FULL + """
                changePause 1 = throws.IllegalStateException
                changePause 8 = throws.IllegalStateException
                changePause 9 = throws.IllegalArgumentException
                changePause -1 = throws.IllegalArgumentException
                """);
    }

    private static void exceptionsBookAndCancelTheFirstThatIsNamed() {
        Run.due(CHECKS, "Exceptions: book and cancel, no such rehearsal, and booked or not", FULL + """
                book 0 = throws.IllegalStateException
                book 3 = throws.IllegalStateException
                book 14 = throws.IndexOutOfBoundsException
                book -1 = throws.IndexOutOfBoundsException
                cancel 3 = throws.IllegalStateException
                cancel 14 = throws.IndexOutOfBoundsException
                cancel -1 = throws.IndexOutOfBoundsException
                """);
    }

    private static void exceptionsAppendTheFirstThatIsNamed() {
        Run.due(CHECKS, "Exceptions: append, out of range and 60 characters", FULL + """
                append 33 = throws.IllegalStateException
                append 32 = throws.IllegalArgumentException
                append 127 = throws.IllegalArgumentException
                """);
    }

    private static void exceptionsReadTheFirstThatIsNamed() {
        Run.due(CHECKS, "Exceptions: read, no text, an end out of range, and more than 14", FULL + """
                read = throws.IllegalStateException
                clearBuffer = 60
                read = throws.IllegalArgumentException
                type 1-2*3;
                read = throws.IllegalArgumentException
                type 2-2*3
                read = throws.IllegalArgumentException
                clearBuffer = 11
                type 1-2*3
                read = throws.IllegalStateException
                """);
    }

    private static void exceptionsGoBackTheFirstThatIsNamed() {
        Run.due(CHECKS, "Exceptions: goBack, out of range and no snapshot", SOME + """
                goBack 0 = throws.IllegalStateException
                goBack 2 = throws.IllegalArgumentException
                goBack -1 = throws.IllegalArgumentException
                """);
    }

    private static void eachCallOn(String day) {
        List<String> calls = Calls.rows(day);
        List<String> shown = Shown.of(Calls.made(new RehearsalRoom(), calls));
        for (String name : new String[] {"read", "undo", "bookBest", "clearBuffer", "firstError"}) {
            due(calls, shown, name);
        }
        for (int one : NUMBERS) {
            for (String name : ONE_ARGUMENT) {
                due(calls, shown, name, one);
            }
            for (int other : NUMBERS) {
                due(calls, shown, "changeFame", one, other);
                due(calls, shown, "areInConflict", one, other);
            }
        }
        for (int one : FEWER) {
            for (int other : FEWER) {
                for (int third : FEWER) {
                    due(calls, shown, "add", one, other, third);
                    due(calls, shown, "move", one, other, third);
                }
            }
        }
    }

    /** The answer that the model gives; and behind a refused call the room shows what it showed. */
    private static void due(List<String> calls, List<String> shown, String name, int... arguments) {
        RehearsalRoom room = Calls.made(new RehearsalRoom(), calls);
        Model model = Calls.made(new Model(), calls);
        StringBuilder told = new StringBuilder("Exceptions: ").append(name);
        for (int argument : arguments) {
            told.append(' ').append(argument);
        }
        String want = Calls.answer(model, name, arguments);
        CHECKS.dueText(told.toString(), Calls.answer(room, name, arguments), want);
        if (Calls.isRefusal(want)) {
            Shown.dueAlike(CHECKS, told.append(": behind it").toString(), Shown.of(room), shown);
        } else {
            CHECKS.due(told.append(": digest() behind it").toString(), room.digest(), model.digest());
        }
    }
}
