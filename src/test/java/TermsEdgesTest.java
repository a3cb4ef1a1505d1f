import java.util.ArrayList;
import java.util.List;
import java.util.Random;

/** The boundaries that "What it is" and "Terms" name, up to the bookings; texts and undo have tests of their own. */
public final class TermsEdgesTest {

    private static final Checks CHECKS = new Checks();

    public static void main(String[] args) {
        whatItIsUpTo512Calls();
        termsQuarters0To95();
        termsUpToTheQuarterAheadOfItsEnd();
        termsAtMost14Rehearsals();
        termsNumberedFrom0InTheirOrder();
        termsFame1To50();
        termsPause0To8AtFirst0();
        termsConflictUnlessAtMostTheBegin();
        termsPauseBehindTheLastQuarter();
        termsChoicePerhapsNone();
        termsBestChoiceTheLeastNumber();
        termsBookedIsAChoiceAtAnyTime();
        CHECKS.end();
    }

    private static void whatItIsUpTo512Calls() {
        Run.due(CHECKS, "What it is: 512 calls, the last one of changePause", """
                170 times: changePause 8
                170 times: changePause 5
                171 times: changePause 0
                changePause 1 = 0
                """);
        Run.due(CHECKS, "What it is: 512 calls, the last one of undo", """
                14 times: add 0 96 50
                491 times: changeFame 13 50 = 50
                6 times: undo
                savedStates = 0
                """);
        RehearsalRoom striking = new RehearsalRoom();
        RehearsalRoom typing = new RehearsalRoom();
        for (int turn = 0; turn < 256; turn++) {
            CHECKS.due("What it is: add in turn " + turn, striking.add(0, 1, 1 + turn % 50), 0);
            CHECKS.due("What it is: strike in turn " + turn, striking.strike(0), 1 + turn % 50);
            CHECKS.due("What it is: append in turn " + turn, typing.append(48), 1);
            CHECKS.due("What it is: clearBuffer in turn " + turn, typing.clearBuffer(), 1);
        }
    }

    private static void termsQuarters0To95() {
        Run.due(CHECKS, "Terms: 96 quarters, numbered from 0", """
                add 0 1 1 = 0
                add 95 96 1 = 1
                add 0 96 1 = 2
                add -1 1 1 = throws.IllegalArgumentException
                add 96 97 1 = throws.IllegalArgumentException
                add 95 97 1 = throws.IllegalArgumentException
                beginOf 0 = 0
                endOf 0 = 1
                beginOf 1 = 95
                endOf 1 = 96
                book 2 = 1
                bookedShare = 1.0
                """);
    }

    /** In each quarter: one that ends as it begins, one that begins with it, and one that ends as it does. */
    private static void termsUpToTheQuarterAheadOfItsEnd() {
        for (int quarter = 1; quarter < 96; quarter++) {
            RehearsalRoom room = Some.room(quarter - 1, quarter, 1, quarter, quarter + 1, 1);
            CHECKS.due("Terms: neighbours at " + quarter, room.conflictsByPairs(), 0);
            CHECKS.due("Terms: neighbours at " + quarter, room.conflictsBySweep(), 0);
            CHECKS.due("Terms: rooms of neighbours at " + quarter, room.roomsBySweep(), 1);
            room.move(0, quarter - 1, quarter + 1);
            CHECKS.due("Terms: one quarter shared, " + quarter, room.conflictsByPairs(), 1);
            CHECKS.due("Terms: one quarter shared, " + quarter, room.conflictsBySweep(), 1);
            CHECKS.due("Terms: rooms with one quarter shared, " + quarter, room.roomsBySweep(), 2);
        }
    }

    private static void termsAtMost14Rehearsals() {
        Run.due(CHECKS, "Terms: at most 14 rehearsals, by add", """
                13 times: add 5 6 1
                add 5 6 1 = 13
                rehearsals = 14
                add 5 6 1 = throws.IllegalStateException
                strike 13
                add 5 6 2 = 13
                add 5 6 1 = throws.IllegalStateException
                """);
        Run.due(CHECKS, "Terms: at most 14 rehearsals, by read", """
                11 times: add 5 6 1
                type 5-6*1;5-6*2;5-6*3;5-6*4
                read = throws.IllegalStateException
                strike 0
                read = 14
                type 5-6*5
                read = throws.IllegalStateException
                rehearsals = 14
                """);
        Run.due(CHECKS, "Terms: at most 14 rehearsals, by goBack and undo", """
                14 times: add 5 6 1
                keep 0
                strike 0
                goBack 0
                add 5 6 1 = throws.IllegalStateException
                undo
                rehearsals = 13
                undo
                add 5 6 1 = throws.IllegalStateException
                """);
    }

    private static void termsNumberedFrom0InTheirOrder() {
        Run.due(CHECKS, "Terms: numbered from 0 in the order in which they were taken on", """
                beginOf 0 = throws.IndexOutOfBoundsException
                add 90 91 9 = 0
                add 10 11 1 = 1
                type 50-51*5;20-21*2
                read = 4
                add 0 1 3 = 4
                beginOf -1 = throws.IndexOutOfBoundsException
                beginOf 0 = 90
                beginOf 1 = 10
                beginOf 2 = 50
                beginOf 3 = 20
                beginOf 4 = 0
                beginOf 5 = throws.IndexOutOfBoundsException
                """);
    }

    private static void termsFame1To50() {
        Run.due(CHECKS, "Terms: fame 1 to 50", """
                add 0 1 0 = throws.IllegalArgumentException
                add 0 1 1 = 0
                add 0 1 50 = 1
                add 0 1 51 = throws.IllegalArgumentException
                changeFame 0 50 = 1
                changeFame 0 51 = throws.IllegalArgumentException
                changeFame 1 1 = 50
                changeFame 1 0 = throws.IllegalArgumentException
                type 0-1*51
                read = throws.IllegalArgumentException
                clearBuffer = 6
                type 0-1*0
                read = throws.IllegalArgumentException
                clearBuffer = 5
                type 0-1*1;0-1*50
                read = 4
                """);
    }

    private static void termsPause0To8AtFirst0() {
        Run.due(CHECKS, "Terms: the pause, 0 to 8, at first 0", """
                pause = 0
                changePause -1 = throws.IllegalArgumentException
                changePause 8 = 0
                changePause 9 = throws.IllegalArgumentException
                pause = 8
                changePause 0 = 8
                pause = 0
                """);
    }

    /** With each pause and gap, in either order of the numbers, and at either end of the day. */
    private static void termsConflictUnlessAtMostTheBegin() {
        for (int pause = 0; pause <= 8; pause++) {
            for (int gap = -1; gap <= 9; gap++) {
                dueConflict(pause, gap < pause, Some.room(0, 2, 3, 2 + gap, 5 + gap, 4), 0);
                dueConflict(pause, gap < pause, Some.room(94 - gap, 96, 3, 91 - 2 * gap, 94 - 2 * gap, 4), 1);
            }
        }
    }

    private static void dueConflict(int pause, boolean want, RehearsalRoom room, int earlier) {
        String name = "Terms: conflict with pause " + pause + ", " + room.beginOf(0) + " to " + room.endOf(0)
                + ", " + room.beginOf(1) + " to " + room.endOf(1) + ": ";
        int more = want ? 1 : 0;
        room.changePause(pause);
        CHECKS.due(name + "areInConflict(0, 1)", room.areInConflict(0, 1), want);
        CHECKS.due(name + "areInConflict(1, 0)", room.areInConflict(1, 0), want);
        CHECKS.due(name + "conflictsOf(0)", room.conflictsOf(0), more);
        CHECKS.due(name + "conflictsOf(1)", room.conflictsOf(1), more);
        CHECKS.due(name + "conflictsByPairs()", room.conflictsByPairs(), more);
        CHECKS.due(name + "conflictsBySweep()", room.conflictsBySweep(), more);
        CHECKS.due(name + "roomsBySweep()", room.roomsBySweep(), 1 + more);
        CHECKS.due(name + "roomsByGiving()", room.roomsByGiving(), 1 + more);
        CHECKS.due(name + "roomOf the earlier", room.roomOf(earlier), 0);
        CHECKS.due(name + "roomOf the later", room.roomOf(1 - earlier), more);
        CHECKS.due(name + "bestByTrying()", room.bestByTrying(), want ? 4 : 7);
        CHECKS.due(name + "bestByTable()", room.bestByTable(), want ? 4 : 7);
        CHECKS.due(name + "bestChoice()", room.bestChoice(), want ? 2 : 3);
        CHECKS.due(name + "mostRehearsals()", room.mostRehearsals(), 2 - more);
        CHECKS.due(name + "bestWith(0)", room.bestWith(0), want ? 3 : 7);
        CHECKS.due(name + "bestWith(1)", room.bestWith(1), want ? 4 : 7);
        room.book(1);
        dueBooking(name + "book(0)", Calls.answer(room, "book 0"), want);
    }

    private static void dueBooking(String name, String answer, boolean conflict) {
        CHECKS.dueText(name, answer, conflict ? "throws.IllegalStateException" : "7");
    }

    private static void termsPauseBehindTheLastQuarter() {
        Run.due(CHECKS, "Terms: a pause that is not over at the day's end", """
                changePause 8
                add 95 96 7 = 0
                add 0 95 6 = 1
                add 0 88 5 = 2
                add 0 87 4 = 3
                conflictsOf 0 = 2
                areInConflict 0 2 = true
                areInConflict 0 3 = false
                conflictsBySweep = 5
                roomsBySweep = 3
                roomsByGiving = 3
                bestByTrying = 11
                bestByTable = 11
                bestChoice = 9
                mostRehearsals = 2
                """);
    }

    private static void termsChoicePerhapsNone() {
        Run.due(CHECKS, "Terms: a choice, perhaps none", """
                bestChoice = 0
                bestByTrying = 0
                bestByTable = 0
                mostRehearsals = 0
                bookBest = 0
                booked = 0
                bookedFame = 0
                bookedShare = 0.0
                """);
    }

    private static void termsBestChoiceTheLeastNumber() {
        Run.due(CHECKS, "Terms: of two alike the least number", """
                add 0 1 50 = 0
                bestChoice = 1
                add 0 1 50 = 1
                bestChoice = 1
                changeFame 1 49
                bestChoice = 1
                changeFame 0 48
                bestChoice = 2
                """);
        Run.due(CHECKS, "Terms: several of low numbers, less than one of a high number", """
                add 0 1 10 = 0
                add 1 2 10 = 1
                add 2 3 10 = 2
                add 0 3 30 = 3
                bestChoice = 7
                add 0 2 20 = 4
                bestChoice = 7
                """);
        Run.due(CHECKS, "Terms: one of a low number, less than several of high numbers", """
                add 0 3 30 = 0
                add 0 1 10 = 1
                add 1 2 10 = 2
                add 2 3 10 = 3
                bestChoice = 1
                strike 0
                add 0 2 20 = 3
                bestChoice = 7
                strike 0
                bestChoice = 6
                """);
        Run.due(CHECKS, "Terms: the least number, not the least lowest bit", """
                add 0 2 2 = 0
                add 0 1 1 = 1
                add 1 2 1 = 2
                add 2 3 1 = 3
                add 2 3 1 = 4
                bestChoice = 9
                changeFame 0 1
                bestChoice = 14
                """);
    }

    private static void termsBookedIsAChoiceAtAnyTime() {
        for (int seed = 0; seed < 200; seed++) {
            Random random = new Random(seed);
            RehearsalRoom room = Some.room(0, 8, 1, 8, 16, 2, 20, 24, 3, 24, 30, 4);
            for (int turn = 0; turn < 14; turn++) {
                int rehearsal = random.nextInt(4);
                int begin = random.nextInt(30);
                change(room, random.nextInt(9), rehearsal, begin);
                dueAChoice(room);
            }
        }
    }

    private static void change(RehearsalRoom room, int kind, int rehearsal, int number) {
        Calls.answer(room, "book " + rehearsal);
        Calls.answer(room, switch (kind) {
            case 0 -> "keep " + number % 2;
            case 1 -> "goBack " + number % 2;
            case 2 -> "undo";
            case 3 -> "bookBest";
            case 4 -> "changePause " + number % 9;
            case 5 -> "cancel " + rehearsal;
            case 6 -> "strike " + rehearsal;
            case 7 -> "add " + number + " " + (number + 4) + " 5";
            default -> "move " + rehearsal + " " + number + " " + (number + 5);
        });
    }

    private static void dueAChoice(RehearsalRoom room) {
        List<Integer> booked = new ArrayList<>();
        int count = room.rehearsals();
        for (int rehearsal = 0; rehearsal < count; rehearsal++) {
            if (room.isBooked(rehearsal)) {
                for (int other : booked) {
                    CHECKS.due("Terms: booked and in conflict", room.areInConflict(rehearsal, other), false);
                }
                booked.add(rehearsal);
            }
        }
    }
}
