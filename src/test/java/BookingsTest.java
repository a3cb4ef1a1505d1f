/** Promises 7 to 9: bookings. */
public final class BookingsTest {

    private static final Checks CHECKS = new Checks();

    public static void main(String[] args) {
        promise7();
        promise8();
        promise9();
        promise9Ties();
        CHECKS.end();
    }

    private static void promise7() {
        RehearsalRoom room = Some.room(10, 20, 5, 20, 30, 7, 19, 21, 50, 29, 40, 9, 0, 96, 1);
        CHECKS.due("book(0)", room.book(0), 5);
        CHECKS.due("book(1), which begins at its end", room.book(1), 12);
        CHECKS.due("savedStates()", room.savedStates(), 6);
        CHECKS.refusedState(room, "book(0) again", () -> room.book(0));
        CHECKS.refusedState(room, "book(2)", () -> room.book(2));
        CHECKS.refusedState(room, "book(3)", () -> room.book(3));
        CHECKS.refusedState(room, "book(4)", () -> room.book(4));
        for (int number : Some.wrongNumbers(room)) {
            CHECKS.refusedIndex(room, "book(" + number + ")", () -> room.book(number));
        }
        room.undo();
        CHECKS.due("isBooked(1) after undo()", room.isBooked(1), false);
        CHECKS.due("book(3)", room.book(3), 14);
        RehearsalRoom pausing = Some.room(10, 20, 5, 22, 30, 7, 23, 24, 8);
        pausing.changePause(3);
        CHECKS.due("book(0)", pausing.book(0), 5);
        CHECKS.refusedState(pausing, "book(1), in its pause", () -> pausing.book(1));
        CHECKS.due("book(2), behind its pause", pausing.book(2), 13);
        RehearsalRoom back = Some.room(10, 20, 5, 22, 30, 7);
        back.changePause(3);
        CHECKS.due("book(1)", back.book(1), 7);
        CHECKS.refusedState(back, "book(0), whose pause is not over then", () -> back.book(0));
    }

    private static void promise8() {
        RehearsalRoom room = Some.apart(3);
        CHECKS.refusedState(room, "cancel(1), not booked", () -> room.cancel(1));
        room.book(0);
        room.book(1);
        room.book(2);
        CHECKS.due("cancel(1)", room.cancel(1), 4);
        CHECKS.due("isBooked(0)", room.isBooked(0), true);
        CHECKS.due("isBooked(1)", room.isBooked(1), false);
        CHECKS.due("isBooked(2)", room.isBooked(2), true);
        CHECKS.refusedState(room, "cancel(1) again", () -> room.cancel(1));
        for (int number : Some.wrongNumbers(room)) {
            CHECKS.refusedIndex(room, "cancel(" + number + ")", () -> room.cancel(number));
        }
        CHECKS.due("cancel(0)", room.cancel(0), 3);
        CHECKS.due("cancel(2)", room.cancel(2), 0);
        room.undo();
        CHECKS.due("isBooked(2) after undo()", room.isBooked(2), true);
        RehearsalRoom one = Some.apart(1);
        one.book(0);
        one.cancel(0);
        CHECKS.due("savedStates()", one.savedStates(), 3);
    }

    private static void promise9() {
        RehearsalRoom empty = new RehearsalRoom();
        CHECKS.due("bookBest() without rehearsals", empty.bookBest(), 0);
        CHECKS.due("savedStates()", empty.savedStates(), 1);
        RehearsalRoom room = Some.room(0, 50, 30, 50, 96, 20, 40, 60, 45, 0, 10, 4);
        room.book(2);
        CHECKS.due("bookBest()", room.bookBest(), 2);
        CHECKS.due("bookedFame()", room.bookedFame(), 50);
        CHECKS.due("isBooked(0)", room.isBooked(0), true);
        CHECKS.due("isBooked(1)", room.isBooked(1), true);
        CHECKS.due("isBooked(2)", room.isBooked(2), false);
        CHECKS.due("savedStates()", room.savedStates(), 6);
        CHECKS.due("bookBest() again", room.bookBest(), 2);
        room.undo();
        room.undo();
        CHECKS.due("isBooked(2) after undo()", room.isBooked(2), true);
        CHECKS.due("booked() after undo()", room.booked(), 1);
        CHECKS.due("bookBest() of 14", Some.apart(14).bookBest(), 14);
    }

    private static void promise9Ties() {
        RehearsalRoom room = Some.room(0, 10, 5, 0, 10, 5, 10, 20, 5, 10, 20, 5);
        CHECKS.due("bookBest()", room.bookBest(), 2);
        CHECKS.due("isBooked(0)", room.isBooked(0), true);
        CHECKS.due("isBooked(2)", room.isBooked(2), true);
    }
}
