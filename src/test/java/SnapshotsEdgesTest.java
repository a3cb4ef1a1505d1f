/** Promises 14 to 17, and "Snapshots, undo" of the terms: each boundary that they name. */
public final class SnapshotsEdgesTest {

    private static final Checks CHECKS = new Checks();

    /** One booked, one not, a pause, a buffer that read takes, slot 1 with another day, and 4 saved states. */
    private static final String DAY = """
            add 10 20 5
            keep 1
            add 30 40 6
            changePause 2
            book 0
            type 50-60*7
            """;

    /** Undoable calls for that day; those of the second row change nothing. */
    private static final String[] UNDOABLE = {
        "add 0 1 1", "strike 0", "strike 1", "move 1 0 8", "changeFame 0 50", "changePause 8", "book 1", "cancel 0",
        "bookBest", "read", "goBack 1", "move 0 10 20", "changeFame 0 5", "changePause 2",
    };

    public static void main(String[] args) {
        snapshotsTwoSlots();
        snapshotsAllButTheBufferTheSlotsAndTheSavedStates();
        undoableIsSavedAlsoIfItChangesNothing();
        undoableRestoresAllFromBeforeIt();
        notUndoableSavesNothing();
        refusedSavesNothing();
        undoLeavesTheBufferAndTheSlots();
        atMost6StatesTheOldestDroppedFirst();
        atMost6StatesByEachUndoableCall();
        promise14Slot();
        promise14InPlaceOfTheOneInTheSlot();
        promise14EmptyAndFullDay();
        promise15Slot();
        promise15NoSnapshotInIt();
        promise15WhichStays();
        promise15Undoable();
        promise16NoSavedState();
        promise16Drops();
        promise17ZeroToSix();
        CHECKS.end();
    }

    private static void snapshotsTwoSlots() {
        Run.due(CHECKS, "Snapshots: two slots", """
                keep -1 = throws.IllegalArgumentException
                keep 2 = throws.IllegalArgumentException
                keep 0
                goBack 1 = throws.IllegalStateException
                add 0 1 1 = 0
                keep 1
                add 0 1 2 = 1
                goBack 0
                rehearsals = 0
                goBack 1
                rehearsals = 1
                goBack 2 = throws.IllegalArgumentException
                goBack -1 = throws.IllegalArgumentException
                """);
    }

    private static void snapshotsAllButTheBufferTheSlotsAndTheSavedStates() {
        Run.due(CHECKS, "Snapshots: all but the buffer, the slots and the saved states", """
                add 10 20 5 = 0
                add 30 40 6 = 1
                book 1 = 6
                changePause 3 = 0
                type abc
                keep 0
                savedStates = 4
                clearBuffer = 3
                type de
                strike 0 = 5
                keep 1
                undo
                undo
                changePause 1 = 0
                cancel 1 = 0
                savedStates = 5
                goBack 0
                savedStates = 6
                pause = 3
                rehearsals = 2
                isBooked 0 = false
                isBooked 1 = true
                bookedFame = 6
                goBack 1
                rehearsals = 1
                fameOf 0 = 6
                isBooked 0 = true
                pause = 3
                clearBuffer = 2
                """);
    }

    private static void undoableIsSavedAlsoIfItChangesNothing() {
        for (String call : UNDOABLE) {
            Run.due(CHECKS, "Undo: saved by " + call, DAY + "savedStates = 4\n" + call + "\nsavedStates = 5\n");
        }
        Run.due(CHECKS, "Undo: saved also if it changes nothing", """
                bookBest = 0
                savedStates = 1
                changePause 0 = 0
                savedStates = 2
                keep 0
                goBack 0
                savedStates = 3
                add 8 12 5 = 0
                bookBest = 1
                bookBest = 1
                savedStates = 6
                undo
                booked = 1
                undo
                booked = 0
                undo
                rehearsals = 0
                savedStates = 3
                undo
                undo
                undo
                undo = throws.IllegalStateException
                """);
    }

    private static void undoableRestoresAllFromBeforeIt() {
        for (String call : UNDOABLE) {
            RehearsalRoom room = Calls.made(new RehearsalRoom(), Calls.rows(DAY + call + "\nundo\n"));
            if (call.equals("read")) {
                Some.type(room, "50-60*7");
            }
            RehearsalRoom twin = Calls.made(new RehearsalRoom(), Calls.rows(DAY));
            Shown.dueAlike(CHECKS, "Undo: behind " + call, Shown.of(room), Shown.of(twin));
        }
    }

    private static void notUndoableSavesNothing() {
        String[] calls = {
            "append 48", "clearBuffer", "firstError", "keep 0", "keep 1", "savedStates", "rehearsals", "beginOf 0",
            "endOf 0", "fameOf 0", "famePerQuarter 0", "isBooked 0", "pause", "booked", "bookedFame",
            "areInConflict 0 1", "conflictsOf 0", "conflictsByPairs", "conflictsBySweep", "roomsBySweep",
            "roomsByGiving", "roomOf 0", "bestByTrying", "bestByTable", "bestChoice", "mostRehearsals",
            "bestWith 0", "bookedShare", "digest",
        };
        for (String call : calls) {
            Run.due(CHECKS, "Undo: not saved by " + call,
                    DAY + call + "\nsavedStates = 4\nundo\nbooked = 0\nsavedStates = 3\n");
        }
    }

    private static void refusedSavesNothing() {
        Run.due(CHECKS, "Undo: a refused call saves nothing", """
                add 0 1 0 = throws.IllegalArgumentException
                strike 0 = throws.IndexOutOfBoundsException
                move 0 0 1 = throws.IndexOutOfBoundsException
                changeFame 0 1 = throws.IndexOutOfBoundsException
                changePause 9 = throws.IllegalArgumentException
                book 0 = throws.IndexOutOfBoundsException
                cancel 0 = throws.IndexOutOfBoundsException
                read = throws.IllegalArgumentException
                goBack 0 = throws.IllegalStateException
                undo = throws.IllegalStateException
                savedStates = 0
                """);
    }

    private static void undoLeavesTheBufferAndTheSlots() {
        Run.due(CHECKS, "Undo: all but the buffer, the slots and the saved states", """
                add 0 1 1 = 0
                add 0 1 2 = 1
                type 0-1*3
                keep 0
                read = 3
                undo
                rehearsals = 2
                clearBuffer = 0
                type xyz
                undo
                undo
                rehearsals = 0
                goBack 1 = throws.IllegalStateException
                goBack 0
                rehearsals = 2
                fameOf 1 = 2
                clearBuffer = 3
                savedStates = 1
                """);
    }

    private static void atMost6StatesTheOldestDroppedFirst() {
        Run.due(CHECKS, "Undo: at most 6 states, the oldest one dropped first", """
                changePause 1 = 0
                changePause 2 = 1
                changePause 3 = 2
                changePause 4 = 3
                changePause 5 = 4
                savedStates = 5
                changePause 6 = 5
                savedStates = 6
                changePause 7 = 6
                savedStates = 6
                undo
                pause = 6
                undo
                pause = 5
                undo
                pause = 4
                undo
                pause = 3
                undo
                pause = 2
                savedStates = 1
                undo
                pause = 1
                savedStates = 0
                undo = throws.IllegalStateException
                pause = 1
                """);
        // More of them than one turn through any ring of six or seven places.
        for (int changes = 1; changes <= 30; changes++) {
            RehearsalRoom room = new RehearsalRoom();
            for (int change = 1; change <= changes; change++) {
                room.changePause(change % 9);
            }
            for (int left = changes - 1; left >= Math.max(0, changes - 6); left--) {
                room.undo();
                CHECKS.due("Undo: pause behind " + changes + " changes", room.pause(), left % 9);
            }
            CHECKS.due("Undo: savedStates() behind " + changes + " changes", room.savedStates(), 0);
            CHECKS.refusedState(room, "Undo: one more behind " + changes + " changes", () -> room.undo());
        }
    }

    /** Each as the seventh: the state from before the first add is dropped. */
    private static void atMost6StatesByEachUndoableCall() {
        for (String call : UNDOABLE) {
            Run.due(CHECKS, "Undo: a seventh state, saved by " + call,
                    DAY + "2 times: changeFame 1 6\nsavedStates = 6\n" + call + "\nsavedStates = 6\n" + """
                    undo
                    rehearsals = 2
                    isBooked 0 = true
                    3 times: undo
                    booked = 0
                    pause = 2
                    undo
                    pause = 0
                    rehearsals = 2
                    undo
                    rehearsals = 1
                    undo = throws.IllegalStateException
                    """);
        }
    }

    private static void promise14Slot() {
        Run.due(CHECKS, "promise 14: slot, 0 or 1", """
                keep MIN = throws.IllegalArgumentException
                keep -1 = throws.IllegalArgumentException
                keep 2 = throws.IllegalArgumentException
                keep MAX = throws.IllegalArgumentException
                goBack 0 = throws.IllegalStateException
                goBack 1 = throws.IllegalStateException
                keep 1
                goBack 0 = throws.IllegalStateException
                goBack 1
                keep 0
                goBack 0
                savedStates = 2
                """);
    }

    private static void promise14InPlaceOfTheOneInTheSlot() {
        Run.due(CHECKS, "promise 14: in place of the one in the slot", """
                add 0 1 1 = 0
                add 2 3 2 = 1
                keep 0
                keep 1
                strike 0 = 1
                book 0 = 2
                keep 0
                cancel 0 = 0
                changeFame 0 50 = 2
                goBack 0
                rehearsals = 1
                fameOf 0 = 2
                isBooked 0 = true
                goBack 1
                rehearsals = 2
                booked = 0
                fameOf 0 = 1
                """);
    }

    private static void promise14EmptyAndFullDay() {
        Run.due(CHECKS, "promise 14: an empty day and a full one", """
                keep 0
                13 times: add 8 12 50
                add 95 96 7 = 13
                book 13 = 7
                keep 1
                goBack 0
                rehearsals = 0
                booked = 0
                add 1 2 3 = 0
                isBooked 0 = false
                goBack 1
                rehearsals = 14
                fameOf 0 = 50
                fameOf 13 = 7
                beginOf 13 = 95
                endOf 13 = 96
                isBooked 13 = true
                """);
    }

    private static void promise15Slot() {
        Run.due(CHECKS, "promise 15: slot, 0 or 1", """
                goBack MIN = throws.IllegalArgumentException
                goBack -1 = throws.IllegalArgumentException
                goBack 2 = throws.IllegalArgumentException
                goBack MAX = throws.IllegalArgumentException
                keep 0
                keep 1
                goBack MIN = throws.IllegalArgumentException
                goBack -1 = throws.IllegalArgumentException
                goBack 2 = throws.IllegalArgumentException
                goBack MAX = throws.IllegalArgumentException
                goBack 0
                goBack 1
                savedStates = 2
                """);
    }

    private static void promise15NoSnapshotInIt() {
        Run.due(CHECKS, "promise 15: no snapshot in it", """
                goBack 0 = throws.IllegalStateException
                goBack 1 = throws.IllegalStateException
                add 0 1 1 = 0
                keep 0
                goBack 1 = throws.IllegalStateException
                undo
                goBack 1 = throws.IllegalStateException
                goBack 0
                rehearsals = 1
                """);
    }

    private static void promise15WhichStays() {
        Run.due(CHECKS, "promise 15: a snapshot stays", """
                add 0 1 1 = 0
                keep 1
                changeFame 0 2 = 1
                goBack 1
                fameOf 0 = 1
                changeFame 0 3 = 1
                move 0 5 9 = 3
                book 0 = 3
                changePause 4 = 0
                add 0 1 1 = 1
                goBack 1
                fameOf 0 = 1
                beginOf 0 = 0
                endOf 0 = 1
                booked = 0
                pause = 0
                rehearsals = 1
                undo
                rehearsals = 2
                goBack 1
                rehearsals = 1
                goBack 0 = throws.IllegalStateException
                """);
    }

    private static void promise15Undoable() {
        Run.due(CHECKS, "promise 15: undoable", """
                keep 0
                add 0 1 1 = 0
                5 times: changeFame 0 7
                savedStates = 6
                goBack 0
                savedStates = 6
                goBack 0
                savedStates = 6
                undo
                rehearsals = 0
                undo
                rehearsals = 1
                fameOf 0 = 7
                4 times: undo
                undo = throws.IllegalStateException
                fameOf 0 = 7
                """);
    }

    private static void promise16NoSavedState() {
        Run.due(CHECKS, "promise 16: no saved state", """
                undo = throws.IllegalStateException
                append 48 = 1
                keep 0
                undo = throws.IllegalStateException
                add 0 1 1 = 0
                undo
                undo = throws.IllegalStateException
                goBack 0
                undo
                undo = throws.IllegalStateException
                7 times: changePause 8
                6 times: undo
                undo = throws.IllegalStateException
                pause = 8
                """);
    }

    private static void promise16Drops() {
        Run.due(CHECKS, "promise 16: restores the latest saved state, and drops it", """
                add 0 1 1 = 0
                add 2 3 2 = 1
                undo
                savedStates = 1
                rehearsals = 1
                add 4 5 3 = 1
                fameOf 1 = 3
                undo
                undo
                rehearsals = 0
                savedStates = 0
                """);
    }

    private static void promise17ZeroToSix() {
        Run.due(CHECKS, "promise 17: 0 to 6", """
                savedStates = 0
                bookBest
                savedStates = 1
                bookBest
                savedStates = 2
                bookBest
                savedStates = 3
                bookBest
                savedStates = 4
                bookBest
                savedStates = 5
                bookBest
                savedStates = 6
                bookBest
                savedStates = 6
                undo
                savedStates = 5
                bookBest
                savedStates = 6
                6 times: undo
                savedStates = 0
                undo = throws.IllegalStateException
                savedStates = 0
                """);
    }
}
