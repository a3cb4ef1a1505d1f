/** Promises 27 to 33: conflicts, rooms. */
public final class ConflictsTest {

    private static final Checks CHECKS = new Checks();

    public static void main(String[] args) {
        promise27();
        promise27Pause();
        promise28();
        promises29And30();
        promises31And32();
        promise33();
        nothingIsChanged();
        noSuchRehearsal(new RehearsalRoom());
        noSuchRehearsal(Some.apart(3));
        noSuchRehearsal(Some.apart(14));
        CHECKS.end();
    }

    private static void dueConflict(RehearsalRoom room, int one, int other, boolean want) {
        CHECKS.due("areInConflict(" + one + ", " + other + ")", room.areInConflict(one, other), want);
        CHECKS.due("areInConflict(" + other + ", " + one + ")", room.areInConflict(other, one), want);
    }

    private static void promise27() {
        RehearsalRoom room = Some.room(10, 20, 1, 20, 30, 1, 19, 21, 1, 10, 20, 1, 12, 13, 1, 0, 10, 1);
        dueConflict(room, 0, 0, false);
        dueConflict(room, 0, 1, false);
        dueConflict(room, 0, 2, true);
        dueConflict(room, 1, 2, true);
        dueConflict(room, 0, 3, true);
        dueConflict(room, 0, 4, true);
        dueConflict(room, 0, 5, false);
        dueConflict(room, 2, 4, false);
    }

    private static void promise27Pause() {
        for (int pause = 0; pause <= 8; pause++) {
            for (int begin = 20; begin <= 30; begin++) {
                RehearsalRoom room = Some.room(10, 20, 1, begin, 40, 1);
                room.changePause(pause);
                dueConflict(room, 0, 1, begin < 20 + pause);
                dueConflict(room, 1, 1, false);
            }
        }
    }

    private static void promise28() {
        RehearsalRoom room = Some.room(8, 12, 5, 12, 20, 7, 11, 13, 20, 0, 96, 30, 20, 24, 3, 8, 9, 2);
        int[] due = {3, 2, 3, 5, 1, 2};
        for (int number = 0; number < due.length; number++) {
            CHECKS.due("conflictsOf(" + number + ")", room.conflictsOf(number), due[number]);
        }
        room.changePause(8);
        CHECKS.due("conflictsOf(0)", room.conflictsOf(0), 4);
        CHECKS.due("conflictsOf(4)", room.conflictsOf(4), 3);
        RehearsalRoom alike = new RehearsalRoom();
        for (int number = 0; number < 14; number++) {
            alike.add(3, 4, 1);
        }
        CHECKS.due("conflictsOf(13) of 14 alike", alike.conflictsOf(13), 13);
    }

    private static void duePairs(RehearsalRoom room, int want) {
        CHECKS.due("conflictsByPairs()", room.conflictsByPairs(), want);
        CHECKS.due("conflictsBySweep()", room.conflictsBySweep(), want);
    }

    private static void promises29And30() {
        duePairs(new RehearsalRoom(), 0);
        duePairs(Some.apart(1), 0);
        duePairs(Some.apart(14), 0);
        RehearsalRoom pausing = Some.apart(14);
        pausing.changePause(1);
        duePairs(pausing, 0);
        pausing.changePause(2);
        duePairs(pausing, 13);
        pausing.changePause(8);
        duePairs(pausing, 13 + 12 + 11 + 10);
        RehearsalRoom alike = new RehearsalRoom();
        for (int number = 0; number < 14; number++) {
            alike.add(95, 96, 1);
        }
        duePairs(alike, 91);
        RehearsalRoom late = Some.room(94, 95, 1, 95, 96, 1);
        duePairs(late, 0);
        late.changePause(1);
        duePairs(late, 1);
        duePairs(Some.room(8, 12, 5, 12, 20, 7, 11, 13, 20, 0, 96, 30, 20, 24, 3, 8, 9, 2), 8);
    }

    private static void dueRooms(RehearsalRoom room, int want) {
        CHECKS.due("roomsBySweep()", room.roomsBySweep(), want);
        CHECKS.due("roomsByGiving()", room.roomsByGiving(), want);
    }

    private static void promises31And32() {
        dueRooms(new RehearsalRoom(), 0);
        dueRooms(Some.apart(1), 1);
        dueRooms(Some.apart(14), 1);
        RehearsalRoom pausing = Some.apart(14);
        pausing.changePause(1);
        dueRooms(pausing, 1);
        pausing.changePause(2);
        dueRooms(pausing, 2);
        pausing.changePause(8);
        dueRooms(pausing, 5);
        RehearsalRoom alike = new RehearsalRoom();
        for (int number = 0; number < 14; number++) {
            alike.add(95, 96, 1);
        }
        dueRooms(alike, 14);
        dueRooms(Some.room(0, 10, 1, 5, 15, 1, 10, 20, 1, 15, 25, 1), 2);
        dueRooms(Some.room(0, 10, 1, 5, 15, 1, 9, 20, 1, 15, 25, 1), 3);
    }

    private static void dueGiven(RehearsalRoom room, int... want) {
        for (int number = 0; number < want.length; number++) {
            CHECKS.due("roomOf(" + number + ")", room.roomOf(number), want[number]);
        }
    }

    private static void promise33() {
        dueGiven(Some.room(8, 12, 5, 12, 20, 7, 11, 13, 20, 0, 96, 30, 20, 24, 3, 8, 9, 2), 1, 1, 2, 0, 1, 2);
        dueGiven(Some.room(10, 20, 1, 10, 11, 1, 10, 30, 1), 0, 1, 2);
        dueGiven(Some.room(30, 40, 1, 10, 20, 1, 5, 15, 1, 15, 16, 1), 0, 1, 0, 0);
        dueGiven(Some.room(0, 10, 1, 0, 5, 1, 0, 3, 1, 5, 8, 1, 6, 9, 1), 0, 1, 2, 1, 2);
        RehearsalRoom pausing = Some.room(0, 10, 1, 0, 5, 1, 0, 3, 1, 5, 8, 1, 6, 9, 1);
        pausing.changePause(1);
        dueGiven(pausing, 0, 1, 2, 2, 1);
        pausing.changePause(3);
        dueGiven(pausing, 0, 1, 2, 3, 2);
        RehearsalRoom moving = Some.room(10, 20, 1, 5, 15, 1);
        dueGiven(moving, 1, 0);
        moving.move(0, 0, 20);
        dueGiven(moving, 0, 1);
        moving.strike(1);
        dueGiven(moving, 0);
    }

    private static void nothingIsChanged() {
        RehearsalRoom room = Some.room(30, 40, 1, 10, 20, 1, 5, 15, 1, 15, 16, 1);
        long before = room.digest();
        room.areInConflict(0, 1);
        room.conflictsOf(0);
        room.conflictsByPairs();
        room.conflictsBySweep();
        room.roomsBySweep();
        room.roomsByGiving();
        room.roomOf(1);
        CHECKS.due("nothing is changed", room.digest(), before);
        CHECKS.due("beginOf(0)", room.beginOf(0), 30);
    }

    private static void noSuchRehearsal(RehearsalRoom room) {
        int[] wrong = {-1, room.rehearsals(), 14, 15, 32, Integer.MAX_VALUE, Integer.MIN_VALUE};
        for (int number : wrong) {
            CHECKS.refusedIndex(room, "conflictsOf(" + number + ")", () -> room.conflictsOf(number));
            CHECKS.refusedIndex(room, "roomOf(" + number + ")", () -> room.roomOf(number));
            CHECKS.refusedIndex(room, "areInConflict(" + number + ", 0)", () -> room.areInConflict(number, 0));
            CHECKS.refusedIndex(room, "areInConflict(0, " + number + ")", () -> room.areInConflict(0, number));
            CHECKS.refusedIndex(room, "areInConflict of twice " + number,
                    () -> room.areInConflict(number, number));
        }
    }
}
