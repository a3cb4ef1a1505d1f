/** Promises 14 to 17: snapshots, undo. */
public final class SnapshotsTest {

    private static final Checks CHECKS = new Checks();

    public static void main(String[] args) {
        promise14();
        promise15();
        promise16();
        promise16Undoable();
        promise17();
        CHECKS.end();
    }

    private static void promise14() {
        RehearsalRoom room = Some.room(0, 5, 10, 5, 9, 20);
        for (int slot : new int[] {-1, 2, Integer.MAX_VALUE, Integer.MIN_VALUE}) {
            CHECKS.refusedArgument(room, "keep(" + slot + ")", () -> room.keep(slot));
        }
        room.book(1);
        room.changePause(3);
        int saved = room.savedStates();
        room.keep(0);
        CHECKS.due("savedStates() after keep(0)", room.savedStates(), saved);
        CHECKS.refusedState(room, "goBack(1)", () -> room.goBack(1));
        room.cancel(1);
        room.changePause(1);
        room.move(0, 90, 91);
        room.changeFame(0, 11);
        room.strike(1);
        room.goBack(0);
        dueKept(room);
        room.strike(0);
        room.keep(0);
        room.add(1, 2, 3);
        room.goBack(0);
        CHECKS.due("rehearsals() of the new snapshot", room.rehearsals(), 1);
        CHECKS.due("fameOf(0) of the new snapshot", room.fameOf(0), 20);
        CHECKS.due("isBooked(0) of the new snapshot", room.isBooked(0), true);
    }

    private static void dueKept(RehearsalRoom room) {
        CHECKS.due("rehearsals()", room.rehearsals(), 2);
        CHECKS.due("beginOf(0)", room.beginOf(0), 0);
        CHECKS.due("endOf(0)", room.endOf(0), 5);
        CHECKS.due("fameOf(0)", room.fameOf(0), 10);
        CHECKS.due("isBooked(0)", room.isBooked(0), false);
        CHECKS.due("fameOf(1)", room.fameOf(1), 20);
        CHECKS.due("isBooked(1)", room.isBooked(1), true);
        CHECKS.due("pause()", room.pause(), 3);
    }

    private static void promise15() {
        RehearsalRoom room = new RehearsalRoom();
        for (int slot : new int[] {-1, 2, Integer.MAX_VALUE, Integer.MIN_VALUE}) {
            CHECKS.refusedArgument(room, "goBack(" + slot + ")", () -> room.goBack(slot));
        }
        CHECKS.refusedState(room, "goBack(0)", () -> room.goBack(0));
        room.keep(1);
        room.add(0, 5, 10);
        room.keep(0);
        Some.type(room, "1-2");
        room.goBack(1);
        CHECKS.due("rehearsals()", room.rehearsals(), 0);
        CHECKS.due("savedStates()", room.savedStates(), 2);
        room.goBack(0);
        CHECKS.due("rehearsals()", room.rehearsals(), 1);
        room.goBack(0);
        CHECKS.due("rehearsals(), the snapshot stays", room.rehearsals(), 1);
        CHECKS.due("savedStates(), also if it changes nothing", room.savedStates(), 4);
        room.changeFame(0, 40);
        room.goBack(0);
        CHECKS.due("fameOf(0), the snapshot is not the state", room.fameOf(0), 10);
        room.undo();
        CHECKS.due("fameOf(0) after undo()", room.fameOf(0), 40);
        room.goBack(1);
        CHECKS.due("rehearsals(), the other slot", room.rehearsals(), 0);
        CHECKS.due("the buffer stays", room.clearBuffer(), 3);
    }

    private static void promise16() {
        RehearsalRoom room = new RehearsalRoom();
        CHECKS.refusedState(room, "undo()", () -> room.undo());
        for (int fame = 1; fame <= 8; fame++) {
            room.add(fame, fame + 1, fame);
        }
        room.keep(1);
        Some.type(room, "abc");
        for (int left = 7; left >= 2; left--) {
            room.undo();
            CHECKS.due("rehearsals() after undo()", room.rehearsals(), left);
            CHECKS.due("savedStates() after undo()", room.savedStates(), left - 2);
            CHECKS.due("fameOf(last)", room.fameOf(left - 1), left);
        }
        CHECKS.refusedState(room, "undo() of a seventh", () -> room.undo());
        CHECKS.due("the buffer stays", room.clearBuffer(), 3);
        room.goBack(1);
        CHECKS.due("the slots stay", room.rehearsals(), 8);
        room.undo();
        CHECKS.due("rehearsals()", room.rehearsals(), 2);
    }

    private static void promise16Undoable() {
        RehearsalRoom room = Some.room(0, 5, 10, 10, 20, 20, 30, 40, 30);
        room.keep(0);
        undone(room, "add", () -> room.add(50, 60, 1));
        undone(room, "strike", () -> room.strike(0));
        undone(room, "move", () -> room.move(1, 1, 2));
        undone(room, "changeFame", () -> room.changeFame(2, 2));
        undone(room, "changePause", () -> room.changePause(7));
        undone(room, "book", () -> room.book(2));
        undone(room, "bookBest", () -> room.bookBest());
        undone(room, "goBack", () -> room.goBack(0));
        room.book(1);
        undone(room, "cancel", () -> room.cancel(1));
        undone(room, "bookBest", () -> room.bookBest());
        undone(room, "strike of a booked one", () -> room.strike(1));
        undone(room, "move of a booked one", () -> room.move(1, 0, 96));
        undone(room, "goBack", () -> room.goBack(0));
    }

    /** The digest of a state takes the saved states in; with at most 5 of them undo brings the same again. */
    private static void undone(RehearsalRoom room, String name, Checks.Call call) {
        long before = room.digest();
        int saved = room.savedStates();
        call.make();
        CHECKS.due("savedStates() after " + name, room.savedStates(), saved + 1);
        room.undo();
        CHECKS.due("digest() after " + name + " and undo()", room.digest(), before);
    }

    private static void promise17() {
        RehearsalRoom room = Some.apart(1);
        CHECKS.due("savedStates()", room.savedStates(), 1);
        for (int count = 2; count <= 9; count++) {
            room.changePause(0);
            CHECKS.due("savedStates()", room.savedStates(), Math.min(count, 6));
        }
        room.keep(0);
        room.append(48);
        room.clearBuffer();
        CHECKS.due("savedStates()", room.savedStates(), 6);
        room.undo();
        CHECKS.due("savedStates() after undo()", room.savedStates(), 5);
        room.changePause(1);
        CHECKS.due("savedStates()", room.savedStates(), 6);
    }
}
