/** Promises 1 to 6: a new object; rehearsals. */
public final class RehearsalsTest {

    private static final int MOST = Integer.MAX_VALUE;
    private static final int LEAST = Integer.MIN_VALUE;
    private static final Checks CHECKS = new Checks();

    public static void main(String[] args) {
        promise1();
        promise2();
        promise2Edges();
        promise3();
        promise3Bookings();
        promise4();
        promise4Booked();
        promise5();
        promise6();
        promise6Booked();
        CHECKS.end();
    }

    private static void promise1() {
        RehearsalRoom room = new RehearsalRoom();
        CHECKS.due("rehearsals()", room.rehearsals(), 0);
        CHECKS.due("pause()", room.pause(), 0);
        CHECKS.due("booked()", room.booked(), 0);
        CHECKS.due("savedStates()", room.savedStates(), 0);
        CHECKS.due("firstError()", room.firstError(), 0);
        CHECKS.refusedState(room, "goBack(0)", () -> room.goBack(0));
        CHECKS.refusedState(room, "goBack(1)", () -> room.goBack(1));
        CHECKS.refusedState(room, "undo()", () -> room.undo());
        CHECKS.due("clearBuffer()", room.clearBuffer(), 0);
        RehearsalRoom other = new RehearsalRoom();
        other.add(0, 1, 1);
        CHECKS.due("rehearsals() of another object", room.rehearsals(), 0);
    }

    private static void promise2() {
        RehearsalRoom room = new RehearsalRoom();
        CHECKS.due("add(0, 1, 1)", room.add(0, 1, 1), 0);
        CHECKS.due("add(95, 96, 50)", room.add(95, 96, 50), 1);
        CHECKS.due("add(0, 96, 25)", room.add(0, 96, 25), 2);
        CHECKS.due("savedStates()", room.savedStates(), 3);
        CHECKS.due("rehearsals()", room.rehearsals(), 3);
        CHECKS.due("beginOf(2)", room.beginOf(2), 0);
        CHECKS.due("endOf(2)", room.endOf(2), 96);
        CHECKS.due("fameOf(2)", room.fameOf(2), 25);
        CHECKS.due("isBooked(2)", room.isBooked(2), false);
        for (int number = 3; number < 14; number++) {
            CHECKS.due("add as " + number, room.add(number, number + 2, number), number);
        }
        CHECKS.refusedState(room, "add to 14", () -> room.add(0, 1, 1));
        CHECKS.refusedArgument(room, "wrong add to 14", () -> room.add(0, 1, 51));
        CHECKS.refusedArgument(room, "wrong add to 14", () -> room.add(1, 1, 1));
        room.undo();
        CHECKS.due("rehearsals() after undo()", room.rehearsals(), 13);
        CHECKS.due("add again", room.add(0, 1, 1), 13);
    }

    private static void promise2Edges() {
        RehearsalRoom room = new RehearsalRoom();
        int[][] wrong = {
            {-1, 1, 1}, {96, 97, 1}, {96, 96, 1}, {95, 97, 1}, {5, 5, 1}, {5, 4, 1}, {5, 97, 1}, {0, 0, 1},
            {0, -1, 1}, {0, 1, 0}, {0, 1, -1}, {0, 1, 51}, {MOST, LEAST, 1}, {MOST, MOST, 1}, {LEAST, 1, 1},
            {0, MOST, 1}, {0, LEAST, 1}, {0, 1, MOST}, {0, 1, LEAST}, {LEAST, LEAST, LEAST},
        };
        for (int[] it : wrong) {
            String name = "add(" + it[0] + ", " + it[1] + ", " + it[2] + ")";
            CHECKS.refusedArgument(room, name, () -> room.add(it[0], it[1], it[2]));
        }
    }

    private static void promise3() {
        RehearsalRoom room = Some.room(0, 5, 10, 6, 9, 20, 10, 12, 30, 20, 30, 40);
        CHECKS.due("strike(1)", room.strike(1), 20);
        CHECKS.due("rehearsals()", room.rehearsals(), 3);
        CHECKS.due("fameOf(0)", room.fameOf(0), 10);
        CHECKS.due("fameOf(1)", room.fameOf(1), 30);
        CHECKS.due("beginOf(1)", room.beginOf(1), 10);
        CHECKS.due("endOf(1)", room.endOf(1), 12);
        CHECKS.due("fameOf(2)", room.fameOf(2), 40);
        CHECKS.due("savedStates()", room.savedStates(), 5);
        for (int number : Some.wrongNumbers(room)) {
            CHECKS.refusedIndex(room, "strike(" + number + ")", () -> room.strike(number));
        }
        CHECKS.due("strike(2)", room.strike(2), 40);
        CHECKS.due("strike(0)", room.strike(0), 10);
        CHECKS.due("strike(0)", room.strike(0), 30);
        CHECKS.refusedIndex(room, "strike(0)", () -> room.strike(0));
        room.undo();
        CHECKS.due("fameOf(0) after undo()", room.fameOf(0), 30);
        RehearsalRoom full = Some.apart(14);
        CHECKS.due("strike(13)", full.strike(13), 14);
        CHECKS.due("strike(0) of 13", full.strike(0), 1);
        CHECKS.due("fameOf(11)", full.fameOf(11), 13);
        CHECKS.due("add in place of them", full.add(0, 1, 1), 12);
    }

    private static void promise3Bookings() {
        RehearsalRoom room = Some.apart(5);
        room.book(0);
        room.book(2);
        room.book(4);
        CHECKS.due("strike(2), which is booked", room.strike(2), 3);
        CHECKS.due("booked()", room.booked(), 2);
        CHECKS.due("bookedFame()", room.bookedFame(), 6);
        CHECKS.due("isBooked(2)", room.isBooked(2), false);
        CHECKS.due("isBooked(3)", room.isBooked(3), true);
        CHECKS.due("strike(1), which is not", room.strike(1), 2);
        CHECKS.due("isBooked(0)", room.isBooked(0), true);
        CHECKS.due("isBooked(1)", room.isBooked(1), false);
        CHECKS.due("isBooked(2)", room.isBooked(2), true);
        CHECKS.due("strike(2), the last one", room.strike(2), 5);
        room.add(20, 21, 9);
        CHECKS.due("isBooked of a new one in its place", room.isBooked(2), false);
        CHECKS.due("booked()", room.booked(), 1);
        room.undo();
        room.undo();
        CHECKS.due("isBooked(2) after undo()", room.isBooked(2), true);
    }

    private static void promise4() {
        RehearsalRoom room = Some.room(10, 20, 5, 30, 40, 6);
        CHECKS.due("move(0, 0, 96)", room.move(0, 0, 96), 86);
        CHECKS.due("move(0, 95, 96)", room.move(0, 95, 96), -95);
        CHECKS.due("move(1, 50, 60)", room.move(1, 50, 60), 0);
        CHECKS.due("beginOf(1)", room.beginOf(1), 50);
        CHECKS.due("endOf(1)", room.endOf(1), 60);
        CHECKS.due("fameOf(1)", room.fameOf(1), 6);
        CHECKS.due("savedStates()", room.savedStates(), 5);
        CHECKS.due("move to where it is", room.move(1, 50, 60), 0);
        CHECKS.due("savedStates()", room.savedStates(), 6);
        int[][] wrong = {
            {-1, 1}, {96, 97}, {96, 96}, {95, 97}, {5, 5}, {5, 4}, {0, 0}, {MOST, LEAST}, {MOST, MOST},
            {LEAST, LEAST}, {LEAST, 1}, {0, MOST}, {0, LEAST},
        };
        for (int[] it : wrong) {
            CHECKS.refusedArgument(room, "move(0, " + it[0] + ", " + it[1] + ")",
                    () -> room.move(0, it[0], it[1]));
            CHECKS.refusedIndex(room, "move(2, " + it[0] + ", " + it[1] + ")",
                    () -> room.move(2, it[0], it[1]));
        }
        for (int number : Some.wrongNumbers(room)) {
            CHECKS.refusedIndex(room, "move(" + number + ", 0, 1)", () -> room.move(number, 0, 1));
        }
        room.undo();
        room.undo();
        CHECKS.due("beginOf(1) after undo()", room.beginOf(1), 30);
    }

    private static void promise4Booked() {
        RehearsalRoom room = Some.room(10, 20, 5, 30, 40, 6, 50, 60, 7);
        room.changePause(2);
        room.book(0);
        room.book(1);
        CHECKS.refusedState(room, "move(0, 10, 29)", () -> room.move(0, 10, 29));
        CHECKS.refusedState(room, "move(0, 41, 45)", () -> room.move(0, 41, 45));
        CHECKS.refusedState(room, "move(0, 32, 33)", () -> room.move(0, 32, 33));
        CHECKS.refusedState(room, "move(1, 21, 22)", () -> room.move(1, 21, 22));
        CHECKS.refusedArgument(room, "move(0, 30, 30)", () -> room.move(0, 30, 30));
        CHECKS.due("move(0, 10, 28), up to the pause", room.move(0, 10, 28), 8);
        CHECKS.due("move(0, 42, 55), over one not booked", room.move(0, 42, 55), -5);
        CHECKS.due("move over its own old time", room.move(0, 43, 56), 0);
        CHECKS.due("move of one not booked onto bookings", room.move(2, 0, 96), 86);
        CHECKS.due("isBooked(0)", room.isBooked(0), true);
        room.cancel(1);
        CHECKS.due("move where nothing is booked now", room.move(0, 30, 40), -3);
    }

    private static void promise5() {
        RehearsalRoom room = Some.room(10, 20, 5, 30, 40, 6);
        CHECKS.due("changeFame(0, 50)", room.changeFame(0, 50), 5);
        CHECKS.due("changeFame(0, 1)", room.changeFame(0, 1), 50);
        CHECKS.due("changeFame(1, 6)", room.changeFame(1, 6), 6);
        CHECKS.due("savedStates()", room.savedStates(), 5);
        CHECKS.due("fameOf(0)", room.fameOf(0), 1);
        CHECKS.due("fameOf(1)", room.fameOf(1), 6);
        for (int fame : new int[] {0, -1, 51, MOST, LEAST}) {
            CHECKS.refusedArgument(room, "changeFame(0, " + fame + ")", () -> room.changeFame(0, fame));
            CHECKS.refusedIndex(room, "changeFame(2, " + fame + ")", () -> room.changeFame(2, fame));
        }
        for (int number : Some.wrongNumbers(room)) {
            CHECKS.refusedIndex(room, "changeFame(" + number + ", 1)", () -> room.changeFame(number, 1));
        }
        room.book(0);
        room.changeFame(0, 9);
        CHECKS.due("bookedFame()", room.bookedFame(), 9);
        room.undo();
        CHECKS.due("fameOf(0) after undo()", room.fameOf(0), 1);
    }

    private static void promise6() {
        RehearsalRoom room = new RehearsalRoom();
        CHECKS.due("changePause(8)", room.changePause(8), 0);
        CHECKS.due("changePause(8)", room.changePause(8), 8);
        CHECKS.due("changePause(0)", room.changePause(0), 8);
        CHECKS.due("pause()", room.pause(), 0);
        CHECKS.due("savedStates()", room.savedStates(), 3);
        for (int quarters : new int[] {-1, 9, MOST, LEAST}) {
            CHECKS.refusedArgument(room, "changePause(" + quarters + ")", () -> room.changePause(quarters));
        }
        room.undo();
        CHECKS.due("pause() after undo()", room.pause(), 8);
    }

    private static void promise6Booked() {
        RehearsalRoom room = Some.room(20, 30, 1, 5, 15, 2, 30, 40, 3);
        room.book(1);
        CHECKS.due("changePause(8), one booked", room.changePause(8), 0);
        room.changePause(0);
        room.book(0);
        CHECKS.due("changePause(5), as far as it is", room.changePause(5), 0);
        CHECKS.refusedState(room, "changePause(6)", () -> room.changePause(6));
        CHECKS.refusedArgument(room, "changePause(9)", () -> room.changePause(9));
        CHECKS.due("changePause(4)", room.changePause(4), 5);
        room.cancel(1);
        CHECKS.due("changePause(8)", room.changePause(8), 4);
        RehearsalRoom inOrder = Some.room(5, 15, 2, 20, 30, 1);
        inOrder.book(0);
        inOrder.book(1);
        CHECKS.refusedState(inOrder, "changePause(6), the first is the earlier", () -> inOrder.changePause(6));
        CHECKS.due("changePause(5)", inOrder.changePause(5), 0);
    }
}
