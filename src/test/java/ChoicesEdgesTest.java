/** Promises 34 to 40: each boundary that they name. The digests that are due were worked out outside of Java. */
public final class ChoicesEdgesTest {

    private static final Checks CHECKS = new Checks();

    public static void main(String[] args) {
        promises34To37NoneToAll();
        promises34And35AtEachPause();
        promises34And35WithItOrWithoutIt();
        promise36TheBestChoiceOfSeveral();
        promise36EachDayOfFour();
        promise37AtTheMost();
        Run.dueNoSuchRehearsal(CHECKS, "promise 38", "bestWith");
        promise38NoneToAllOthers();
        promise39NoneToTheWholeDay();
        promise40LongArithmeticWithOverflow();
        promise40OneRehearsal();
        promise40FullDay();
        promise40EachValue();
        CHECKS.end();
    }

    private static void dueBest(String name, RehearsalRoom room, int fame, int choice, int most) {
        CHECKS.due("promise 34: " + name, room.bestByTrying(), fame);
        CHECKS.due("promise 35: " + name, room.bestByTable(), fame);
        CHECKS.due("promise 36: " + name, room.bestChoice(), choice);
        CHECKS.due("promise 37: " + name, room.mostRehearsals(), most);
    }

    private static void promises34To37NoneToAll() {
        RehearsalRoom apart = new RehearsalRoom();
        RehearsalRoom alike = new RehearsalRoom();
        dueBest("without rehearsals", apart, 0, 0, 0);
        for (int count = 1; count <= 14; count++) {
            apart.add(96 - count, 97 - count, 50);
            alike.add(0, 96, 50);
            dueBest(count + " apart", apart, 50 * count, (1 << count) - 1, count);
            dueBest(count + " alike", alike, 50, 1, 1);
        }
        dueBest("one of fame 1", Some.room(95, 96, 1), 1, 1, 1);
    }

    /** With 14 of 5 quarters, each 6 behind the one before: the pause lets each one, each second or each third in. */
    private static void promises34And35AtEachPause() {
        for (int pause = 0; pause <= 8; pause++) {
            RehearsalRoom room = new RehearsalRoom();
            for (int number = 0; number < 14; number++) {
                room.add(6 * number, 6 * number + 5, 10);
            }
            room.changePause(pause);
            String name = "pause " + pause;
            if (pause <= 1) {
                dueBest(name, room, 140, 0b11111111111111, 14);
            } else if (pause <= 7) {
                dueBest(name, room, 70, 0b01010101010101, 7);
            } else {
                dueBest(name, room, 50, 0b01001001001001, 5);
            }
        }
    }

    private static void promises34And35WithItOrWithoutIt() {
        Run.due(CHECKS, "promises 34 and 35: with it, or without it", """
                add 0 30 20
                add 30 60 20
                add 20 40 39
                bestByTrying = 40
                bestByTable = 40
                bestChoice = 3
                changeFame 2 40
                bestByTrying = 40
                bestByTable = 40
                bestChoice = 3
                changeFame 2 41
                bestByTrying = 41
                bestByTable = 41
                bestChoice = 4
                move 2 20 30
                bestByTrying = 61
                bestByTable = 61
                bestChoice = 6
                move 2 60 61
                bestByTrying = 81
                bestByTable = 81
                bestChoice = 7
                """);
    }

    private static void promise36TheBestChoiceOfSeveral() {
        Run.due(CHECKS, "promise 36: of several the one that is the least number as a set", """
                14 times: add 40 50 9
                bestChoice = 1
                changeFame 13 10
                bestChoice = 8192
                changeFame 0 10
                bestChoice = 1
                strike 0
                move 12 0 40
                changeFame 12 1
                bestChoice = 4097
                bestByTrying = 10
                changePause 1
                bestChoice = 1
                """);
    }

    /** All fames 1 or 2, all begins 0 to 3: many choices that are as good as the best one. */
    private static void promise36EachDayOfFour() {
        for (int day = 0; day < 4096; day++) {
            RehearsalRoom room = new RehearsalRoom();
            Model model = new Model();
            for (int number = 0; number < 4; number++) {
                int kind = day >> 3 * number & 7;
                room.add(kind / 2, kind / 2 + 2, 1 + kind % 2);
                model.add(kind / 2, kind / 2 + 2, 1 + kind % 2);
            }
            String name = "of day " + day;
            dueBest(name, room, model.bestByTrying(), model.bestChoice(), model.mostRehearsals());
        }
    }

    private static void promise37AtTheMost() {
        Run.due(CHECKS, "promise 37: at the most, whatever the fame", """
                add 0 96 50
                mostRehearsals = 1
                add 1 2 1
                mostRehearsals = 1
                add 2 3 1
                mostRehearsals = 2
                changePause 1
                mostRehearsals = 1
                move 2 3 4
                mostRehearsals = 2
                bestChoice = 1
                add 95 96 1
                mostRehearsals = 3
                """);
    }

    private static void promise38NoneToAllOthers() {
        RehearsalRoom room = new RehearsalRoom();
        for (int number = 0; number < 14; number++) {
            room.add(number, number + 1, 50);
        }
        for (int number = 0; number < 14; number++) {
            CHECKS.due("promise 38: with all others", room.bestWith(number), 700);
        }
        Run.due(CHECKS, "promise 38: with a rehearsal in it", """
                add 0 96 1
                bestWith 0 = 1
                add 0 10 20
                add 10 20 30
                add 9 11 50
                bestWith 0 = 1
                bestWith 1 = 50
                bestWith 2 = 50
                bestWith 3 = 50
                changePause 1
                bestWith 1 = 20
                bestWith 2 = 30
                bestByTable = 50
                book 1
                bestWith 2 = 30
                """);
    }

    private static void promise39NoneToTheWholeDay() {
        Run.due(CHECKS, "promise 39: none to the whole day", """
                bookedShare = 0.0
                add 0 95 1
                add 95 96 2
                bookedShare = 0.0
                book 1
                bookedShare = 0.010416666666666666
                book 0
                bookedShare = 1.0
                cancel 1
                bookedShare = 0.9895833333333334
                move 0 0 32
                bookedShare = 0.3333333333333333
                changePause 8
                bookedShare = 0.3333333333333333
                strike 0
                bookedShare = 0.0
                """);
        for (int quarters = 1; quarters <= 96; quarters++) {
            RehearsalRoom room = Some.room(96 - quarters, 96, 1);
            room.book(0);
            CHECKS.dueBits("promise 39: " + quarters + " quarters", room.bookedShare(), quarters / 96.0);
        }
    }

    /** Even the 17 values of a new object are more than a long holds without overflow. */
    private static void promise40LongArithmeticWithOverflow() {
        Run.due(CHECKS, "promise 40: 31 to the 17th, with overflow", """
                digest = -4240548301607994887
                append 126
                digest = -2329788833880980028
                clearBuffer
                digest = -4240548301607994887
                keep 1
                append 33
                append 126
                digest = 1563522444527853591
                """);
        Run.due(CHECKS, "promise 40: a pause and the first slot", """
                changePause 8
                keep 0
                digest = 3787692387483124787
                """);
    }

    private static void promise40OneRehearsal() {
        Run.due(CHECKS, "promise 40: one rehearsal", """
                add 0 1 1
                digest = 4936509757018757884
                book 0
                digest = -8877996860546438329
                """);
        Run.due(CHECKS, "promise 40: one rehearsal, all day", """
                add 0 96 50
                changePause 8
                book 0
                keep 0
                keep 1
                type 0-96*50
                digest = -3653549811687379892
                """);
    }

    private static void promise40FullDay() {
        RehearsalRoom room = new RehearsalRoom();
        for (int number = 0; number < 14; number++) {
            room.add(6 * number, 6 * number + 6, 50);
        }
        room.bookBest();
        room.keep(0);
        room.keep(1);
        Some.type(room, "-".repeat(60));
        CHECKS.due("promise 40: all that there can be", room.digest(), -4403872839447969916L);
        Run.due(CHECKS, "promise 40: 14 alike", """
                14 times: add 3 4 1
                changePause 8
                digest = -3664892637585270674
                """);
        Run.due(CHECKS, "promise 40: six rehearsals", """
                add 8 12 5
                add 12 20 7
                add 11 13 20
                add 0 96 30
                add 20 24 3
                add 8 9 2
                book 0
                book 1
                keep 1
                type 8-12*5;
                digest = -5500680341017627146
                """);
    }

    /** Each of these runs differs from the first one in few values of the list. */
    private static void promise40EachValue() {
        String day = "add 8 12 5\nadd 12 20 7\n";
        String[] runs = {
            "", "changeFame 0 5\n", "changeFame 0 6\n", "move 0 8 11\n", "move 0 7 12\n", "book 0\n", "book 1\n",
            "changePause 1\n", "changePause 8\n", "keep 0\n", "keep 1\n", "keep 0\nkeep 1\n", "type 0\n", "type 00\n",
            "type 1\n", "strike 0\n", "strike 1\n", "add 8 12 5\n", "undo\n", "undo\nundo\n", "bookBest\n",
        };
        for (int run = 0; run < runs.length; run++) {
            RehearsalRoom room = Calls.made(new RehearsalRoom(), Calls.rows(day + runs[run]));
            Model model = Calls.made(new Model(), Calls.rows(day + runs[run]));
            CHECKS.due("promise 40: " + runs[run].strip(), room.digest(), model.digest());
            for (int other = 0; other < run; other++) {
                RehearsalRoom another = Calls.made(new RehearsalRoom(), Calls.rows(day + runs[other]));
                CHECKS.due("promise 40: " + runs[run].strip() + ", as " + runs[other].strip(),
                        room.digest() == another.digest(), false);
            }
        }
    }
}
