/** Promises 27 to 33: each boundary that they name; "Two rehearsals are in conflict, unless" is in TermsEdgesTest. */
public final class ConflictsEdgesTest {

    private static final Checks CHECKS = new Checks();

    public static void main(String[] args) {
        promise27NoSuchRehearsal();
        promise27OneAndTheSame();
        Run.dueNoSuchRehearsal(CHECKS, "promise 28", "conflictsOf");
        promise28NoneToAllOthers();
        promises29And30NoneToAllPairs();
        promise30ThoseThatBeginWithIt();
        promise30StillGoingOnOrPauseNotOver();
        promises31And32NoneToAll();
        promise31TheMostAtATime();
        Run.dueNoSuchRehearsal(CHECKS, "promise 33", "roomOf");
        promise33ByTheirBeginOfLikeOnesByTheirNumber();
        promise33TheLowestRoom();
        promise33AtEachPause();
        CHECKS.end();
    }

    private static void promise27NoSuchRehearsal() {
        Run.due(CHECKS, "promise 27: no such rehearsal", """
                areInConflict 0 0 = throws.IndexOutOfBoundsException
                areInConflict -1 -1 = throws.IndexOutOfBoundsException
                add 8 12 7 = 0
                areInConflict 0 1 = throws.IndexOutOfBoundsException
                areInConflict 1 0 = throws.IndexOutOfBoundsException
                areInConflict 1 1 = throws.IndexOutOfBoundsException
                areInConflict 0 -1 = throws.IndexOutOfBoundsException
                areInConflict -1 0 = throws.IndexOutOfBoundsException
                areInConflict 0 MIN = throws.IndexOutOfBoundsException
                areInConflict MIN 0 = throws.IndexOutOfBoundsException
                areInConflict 0 MAX = throws.IndexOutOfBoundsException
                areInConflict MAX 0 = throws.IndexOutOfBoundsException
                areInConflict MIN MIN = throws.IndexOutOfBoundsException
                areInConflict MAX MAX = throws.IndexOutOfBoundsException
                13 times: add 8 12 7
                areInConflict 0 13 = true
                areInConflict 13 0 = true
                areInConflict 13 14 = throws.IndexOutOfBoundsException
                areInConflict 14 13 = throws.IndexOutOfBoundsException
                areInConflict 14 14 = throws.IndexOutOfBoundsException
                """);
    }

    private static void promise27OneAndTheSame() {
        Run.due(CHECKS, "promise 27: one and the same", """
                add 0 96 1 = 0
                areInConflict 0 0 = false
                changePause 8
                areInConflict 0 0 = false
                13 times: add 0 96 1
                areInConflict 13 13 = false
                areInConflict 13 12 = true
                areInConflict 12 13 = true
                """);
    }

    private static void promise28NoneToAllOthers() {
        Run.due(CHECKS, "promise 28: none to all others", """
                add 40 50 1 = 0
                conflictsOf 0 = 0
                add 50 60 1 = 1
                conflictsOf 0 = 0
                changePause 1
                conflictsOf 0 = 1
                conflictsOf 1 = 1
                12 times: add 49 51 1
                conflictsOf 0 = 13
                conflictsOf 1 = 13
                conflictsOf 2 = 13
                move 13 0 38
                conflictsOf 13 = 0
                conflictsOf 0 = 12
                """);
    }

    private static void duePairs(String name, RehearsalRoom room, int want) {
        CHECKS.due("promise 29: " + name, room.conflictsByPairs(), want);
        CHECKS.due("promise 30: " + name, room.conflictsBySweep(), want);
    }

    private static void promises29And30NoneToAllPairs() {
        RehearsalRoom room = new RehearsalRoom();
        duePairs("without rehearsals", room, 0);
        for (int count = 1; count <= 14; count++) {
            room.add(count, 95, 1);
            duePairs(count + " that go on at a time", room, count * (count - 1) / 2);
        }
        duePairs("14 apart", Some.apart(14), 0);
    }

    private static void promise30ThoseThatBeginWithIt() {
        for (int quarter = 0; quarter < 96; quarter++) {
            RehearsalRoom room = new RehearsalRoom();
            for (int count = 1; count <= 14; count++) {
                room.add(quarter, quarter + 1 + (count < 14 ? 0 : (95 - quarter) / 2), 1);
                duePairs(count + " that begin at " + quarter, room, count * (count - 1) / 2);
            }
        }
    }

    private static void promise30StillGoingOnOrPauseNotOver() {
        Run.due(CHECKS, "promise 30: still going on, or whose pause is not over", """
                add 0 20 1
                add 10 30 1
                conflictsBySweep = 1
                add 20 40 1
                conflictsBySweep = 2
                changePause 1
                conflictsBySweep = 3
                add 31 32 1
                conflictsBySweep = 4
                changePause 2
                conflictsBySweep = 5
                add 95 96 1
                move 2 20 87
                conflictsBySweep = 5
                changePause 8
                conflictsBySweep = 5
                move 2 20 88
                conflictsBySweep = 6
                conflictsByPairs = 6
                """);
    }

    private static void dueRooms(String name, RehearsalRoom room, int want) {
        CHECKS.due("promise 31: " + name, room.roomsBySweep(), want);
        CHECKS.due("promise 32: " + name, room.roomsByGiving(), want);
    }

    private static void promises31And32NoneToAll() {
        RehearsalRoom room = new RehearsalRoom();
        dueRooms("without rehearsals", room, 0);
        for (int count = 1; count <= 14; count++) {
            room.add(count - 1, 95, 1);
            dueRooms(count + " that go on at a time", room, count);
            CHECKS.due("promise 33: the last of " + count, room.roomOf(count - 1), count - 1);
        }
        dueRooms("14 apart", Some.apart(14), 1);
        dueRooms("one in the last quarter", Some.room(95, 96, 1), 1);
        dueRooms("two in the last quarter", Some.room(95, 96, 1, 95, 96, 1), 2);
        dueRooms("two in the first quarter", Some.room(0, 1, 1, 0, 1, 1), 2);
    }

    private static void promise31TheMostAtATime() {
        Run.due(CHECKS, "promises 31 and 32: the most at a time, or whose pause is not over", """
                add 0 10 1
                add 5 15 1
                add 10 20 1
                add 15 25 1
                roomsBySweep = 2
                roomsByGiving = 2
                changePause 1
                roomsBySweep = 3
                roomsByGiving = 3
                changePause 5
                roomsBySweep = 3
                roomsByGiving = 3
                changePause 6
                roomsBySweep = 4
                roomsByGiving = 4
                """);
    }

    private static void promise33ByTheirBeginOfLikeOnesByTheirNumber() {
        Run.due(CHECKS, "promise 33: by their begin, of like ones by their number", """
                add 10 12 1
                add 10 11 1
                add 10 30 1
                roomOf 0 = 0
                roomOf 1 = 1
                roomOf 2 = 2
                add 9 11 1
                roomOf 3 = 0
                roomOf 0 = 1
                roomOf 1 = 2
                roomOf 2 = 3
                move 3 11 12
                roomOf 3 = 1
                roomOf 0 = 0
                strike 0
                roomOf 0 = 0
                roomOf 1 = 1
                roomOf 2 = 0
                """);
    }

    /** The lowest one, though one above it is free too, and though all others are full. */
    private static void promise33TheLowestRoom() {
        Run.due(CHECKS, "promise 33: the lowest room", """
                add 0 10 1
                add 1 5 1
                add 2 5 1
                add 3 20 1
                add 5 8 1
                add 6 9 1
                add 10 12 1
                add 10 12 1
                add 10 12 1
                roomOf 3 = 3
                roomOf 4 = 1
                roomOf 5 = 2
                roomOf 6 = 0
                roomOf 7 = 1
                roomOf 8 = 2
                roomsByGiving = 4
                add 10 11 1
                roomOf 9 = 4
                roomsByGiving = 5
                """);
    }

    private static void promise33AtEachPause() {
        for (int pause = 0; pause <= 8; pause++) {
            for (int gap = 0; gap <= 9; gap++) {
                RehearsalRoom room = Some.room(10 + gap, 11 + gap, 1, 5, 10, 1, 0, 20, 1);
                room.changePause(pause);
                String name = "promise 33: pause " + pause + ", gap " + gap;
                CHECKS.due(name, room.roomOf(2), 0);
                CHECKS.due(name, room.roomOf(1), 1);
                CHECKS.due(name, room.roomOf(0), gap < pause ? 2 : 1);
            }
        }
    }
}
