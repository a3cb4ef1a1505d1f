/** Promises 7 to 9: each boundary that they name. */
public final class BookingsEdgesTest {

    private static final Checks CHECKS = new Checks();

    public static void main(String[] args) {
        promise7NoSuchRehearsal();
        promise7IfItIsBooked();
        promise7ConflictAtEachPause();
        promise7ConflictWithOneThatIsNotBooked();
        promise7FameOfAll();
        promise8NoSuchRehearsal();
        promise8NotBooked();
        promise8FameOfAll();
        promise9WithoutRehearsals();
        promise9InPlaceOfAllThatWereBooked();
        promise9OfSeveralTheLeastNumber();
        promise9FullDay();
        CHECKS.end();
    }

    private static void promise7NoSuchRehearsal() {
        Run.due(CHECKS, "promise 7: no such rehearsal", """
                book 0 = throws.IndexOutOfBoundsException
                add 8 12 7 = 0
                book MIN = throws.IndexOutOfBoundsException
                book -1 = throws.IndexOutOfBoundsException
                book 1 = throws.IndexOutOfBoundsException
                book MAX = throws.IndexOutOfBoundsException
                book 0 = 7
                book 1 = throws.IndexOutOfBoundsException
                book 32 = throws.IndexOutOfBoundsException
                13 times: add 20 24 5
                book 14 = throws.IndexOutOfBoundsException
                book 13 = 12
                """);
    }

    private static void promise7IfItIsBooked() {
        Run.due(CHECKS, "promise 7: if it is booked", """
                add 8 12 7 = 0
                add 12 20 5 = 1
                book 0 = 7
                book 0 = throws.IllegalStateException
                book 1 = 12
                book 0 = throws.IllegalStateException
                book 1 = throws.IllegalStateException
                cancel 0 = 5
                book 0 = 12
                """);
    }

    private static void promise7ConflictAtEachPause() {
        for (int pause = 0; pause <= 8; pause++) {
            for (int gap = 0; gap <= 9; gap++) {
                RehearsalRoom room = Some.room(30, 40, 1, 40 + gap, 41 + gap, 2, 29 - gap, 30 - gap, 4);
                room.changePause(pause);
                room.book(0);
                String refused = "throws.IllegalStateException";
                String name = "promise 7: pause " + pause + ", gap " + gap + ": ";
                CHECKS.dueText(name + "book the later", Calls.answer(room, "book 1"), gap < pause ? refused : "3");
                CHECKS.dueText(name + "book the earlier", Calls.answer(room, "book 2"), gap < pause ? refused : "7");
                CHECKS.due(name + "booked()", room.booked(), gap < pause ? 1 : 3);
            }
        }
    }

    private static void promise7ConflictWithOneThatIsNotBooked() {
        Run.due(CHECKS, "promise 7: in conflict with one that is not booked", """
                add 8 12 7 = 0
                add 11 20 5 = 1
                add 19 24 3 = 2
                book 0 = 7
                book 1 = throws.IllegalStateException
                book 2 = 10
                book 1 = throws.IllegalStateException
                cancel 0 = 3
                book 1 = throws.IllegalStateException
                cancel 2 = 0
                book 1 = 5
                book 0 = throws.IllegalStateException
                book 2 = throws.IllegalStateException
                """);
    }

    private static void promise7FameOfAll() {
        RehearsalRoom room = new RehearsalRoom();
        for (int number = 0; number < 14; number++) {
            room.add(95 - number, 96 - number, 50);
        }
        for (int number = 0; number < 14; number++) {
            CHECKS.due("promise 7: fame of all that are booked", room.book(number), 50 * (number + 1));
        }
    }

    private static void promise8NoSuchRehearsal() {
        Run.due(CHECKS, "promise 8: no such rehearsal", """
                cancel 0 = throws.IndexOutOfBoundsException
                add 8 12 7 = 0
                book 0 = 7
                cancel MIN = throws.IndexOutOfBoundsException
                cancel -1 = throws.IndexOutOfBoundsException
                cancel 1 = throws.IndexOutOfBoundsException
                cancel 32 = throws.IndexOutOfBoundsException
                cancel MAX = throws.IndexOutOfBoundsException
                13 times: add 20 24 5
                cancel 14 = throws.IndexOutOfBoundsException
                book 13 = 12
                cancel 13 = 7
                """);
    }

    private static void promise8NotBooked() {
        Run.due(CHECKS, "promise 8: not booked", """
                add 8 12 7 = 0
                add 12 20 5 = 1
                cancel 0 = throws.IllegalStateException
                book 1 = 5
                cancel 0 = throws.IllegalStateException
                cancel 1 = 0
                cancel 1 = throws.IllegalStateException
                undo
                cancel 1 = 0
                """);
    }

    private static void promise8FameOfAll() {
        RehearsalRoom room = Some.apart(14);
        room.bookBest();
        int fame = 14 * 15 / 2;
        for (int number = 0; number < 14; number++) {
            fame -= number + 1;
            CHECKS.due("promise 8: fame of all that are booked then", room.cancel(number), fame);
            CHECKS.due("promise 8: booked()", room.booked(), 13 - number);
        }
    }

    private static void promise9WithoutRehearsals() {
        Run.due(CHECKS, "promise 9: without rehearsals", """
                bookBest = 0
                booked = 0
                savedStates = 1
                add 8 12 7 = 0
                bookBest = 1
                isBooked 0 = true
                strike 0 = 7
                bookBest = 0
                """);
    }

    private static void promise9InPlaceOfAllThatWereBooked() {
        Run.due(CHECKS, "promise 9: in place of all that were booked", """
                add 0 10 1 = 0
                add 10 20 1 = 1
                add 0 20 3 = 2
                book 0 = 1
                book 1 = 2
                bookBest = 1
                isBooked 0 = false
                isBooked 1 = false
                isBooked 2 = true
                bookedFame = 3
                bookBest = 1
                isBooked 2 = true
                undo
                undo
                isBooked 0 = true
                isBooked 2 = false
                """);
    }

    private static void promise9OfSeveralTheLeastNumber() {
        Run.due(CHECKS, "promise 9: of several the least number", """
                add 0 20 2 = 0
                add 0 10 1 = 1
                add 10 20 1 = 2
                bookBest = 1
                isBooked 0 = true
                strike 0 = 2
                add 0 20 2 = 2
                bookBest = 2
                isBooked 0 = true
                isBooked 1 = true
                isBooked 2 = false
                changePause 0 = 0
                cancel 1 = 1
                changePause 1 = 0
                bookBest = 1
                isBooked 2 = true
                """);
    }

    private static void promise9FullDay() {
        Run.due(CHECKS, "promise 9: 14 alike", """
                14 times: add 0 96 50
                bookBest = 1
                isBooked 0 = true
                isBooked 13 = false
                changeFame 0 49
                bookBest = 1
                isBooked 1 = true
                """);
        CHECKS.due("promise 9: 14 apart", Some.apart(14).bookBest(), 14);
    }
}
