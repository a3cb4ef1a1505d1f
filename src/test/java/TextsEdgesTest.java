/** Promises 10 to 13, and "Input text" of the terms: each boundary that they name. */
public final class TextsEdgesTest {

    private static final Checks CHECKS = new Checks();

    public static void main(String[] args) {
        inputTextAtMost60Characters();
        inputTextOneOrMoreParts();
        inputTextBegin0To95();
        inputTextEnd1To96();
        inputTextFame1To50();
        inputTextWithoutLeadingZeros();
        inputTextEndNotAboveItsBegin();
        inputTextOfAnyLength();
        inputTextReadFromLeftToRight();
        inputTextSignsBetween();
        promise10Code();
        promise10SixtyCharacters();
        promise11LengthThatItHad();
        promise12WithoutAnError();
        promise12NothingIsChanged();
        promise13NoRehearsalsAsAText();
        promise13SomeEndOutOfRange();
        promise13MoreThan14();
        promise13MoreThan14ByTheLongestText();
        promise13AllOrNothing();
        promise13ClearsTheBuffer();
        promise13UndoableAsOneCall();
        CHECKS.end();
    }

    private static void dueError(String name, String text, int want) {
        RehearsalRoom room = new RehearsalRoom();
        Some.type(room, text);
        CHECKS.due(name + ": firstError() of " + text, room.firstError(), want);
        CHECKS.dueText(name + ": firstError() by the model, of " + text,
                String.valueOf(Model.firstError(text)), String.valueOf(want));
    }

    private static void inputTextAtMost60Characters() {
        Run.due(CHECKS, "Input text: at most 60 characters", """
                59 times: append 126
                append 33 = 60
                append 33 = throws.IllegalStateException
                append 126 = throws.IllegalStateException
                clearBuffer = 60
                append 33 = 1
                """);
        Run.due(CHECKS, "Input text: a text of 60 characters", """
                type 10-11*20;10-11*20;10-11*20;10-11*20;10-11*20;10-11*20;0-1*37
                firstError = 60
                append 48 = throws.IllegalStateException
                read = 7
                fameOf 6 = 37
                """);
    }

    private static void inputTextOneOrMoreParts() {
        Run.due(CHECKS, "Input text: one or more parts", """
                firstError = 0
                read = throws.IllegalArgumentException
                type ;
                firstError = 0
                read = throws.IllegalArgumentException
                clearBuffer = 1
                type 0-1*1
                firstError = 5
                append 59 = 6
                firstError = 6
                read = throws.IllegalArgumentException
                append 59 = 7
                firstError = 6
                read = throws.IllegalArgumentException
                clearBuffer = 7
                type 0-1*1
                read = 1
                type 0-1*1;0-1*2
                read = 3
                """);
    }

    private static void inputTextBegin0To95() {
        String name = "Input text: a begin, 0 to 95";
        dueError(name, "0-", 2);
        dueError(name, "9-", 2);
        dueError(name, "10-", 3);
        dueError(name, "94-", 3);
        dueError(name, "95-", 3);
        dueError(name, "96-", 1);
        dueError(name, "97", 1);
        dueError(name, "99", 1);
        dueError(name, "100-", 2);
        dueError(name, "950", 2);
        dueError(name, "1-2*3;95-", 9);
        dueError(name, "1-2*3;96-", 7);
    }

    private static void inputTextEnd1To96() {
        String name = "Input text: an end, 1 to 96";
        dueError(name, "0-0*", 2);
        dueError(name, "0-1*", 4);
        dueError(name, "0-9*", 4);
        dueError(name, "0-10*", 5);
        dueError(name, "0-95*", 5);
        dueError(name, "0-96*", 5);
        dueError(name, "0-97*", 3);
        dueError(name, "0-99", 3);
        dueError(name, "0-100*", 4);
        dueError(name, "0-960", 4);
        dueError(name, "1-2*3;0-96*", 11);
        dueError(name, "1-2*3;0-97*", 9);
        dueError(name, "1-2*3;0-0*", 8);
    }

    private static void inputTextFame1To50() {
        String name = "Input text: a fame, 1 to 50";
        dueError(name, "0-1*0", 4);
        dueError(name, "0-1*1", 5);
        dueError(name, "0-1*9;", 6);
        dueError(name, "0-1*49;", 7);
        dueError(name, "0-1*50;", 7);
        dueError(name, "0-1*51", 5);
        dueError(name, "0-1*59", 5);
        dueError(name, "0-1*60", 5);
        dueError(name, "0-1*90", 5);
        dueError(name, "0-1*100", 6);
        dueError(name, "0-1*500", 6);
        dueError(name, "0-1*1;0-1*50", 12);
        dueError(name, "0-1*1;0-1*51", 11);
        dueError(name, "0-1*1;0-1*0", 10);
    }

    private static void inputTextWithoutLeadingZeros() {
        String name = "Input text: numbers without leading zeros";
        dueError(name, "00-1*1", 1);
        dueError(name, "01-2*1", 1);
        dueError(name, "095-96*1", 1);
        dueError(name, "0-01*1", 2);
        dueError(name, "0-1*01", 4);
        dueError(name, "0-1*1;00-1*1", 7);
        dueError(name, "0-1*1;05-7*1", 7);
        dueError(name, "10-20*30", 8);
    }

    private static void inputTextEndNotAboveItsBegin() {
        String name = "Input text: an end that is not above its begin";
        dueError(name, "8-8*5", 5);
        dueError(name, "8-7*5", 5);
        dueError(name, "95-1*1", 6);
        dueError(name, "95-95*1;1-1*1", 13);
    }

    /** The last character that the buffer takes may begin what it has no room for. */
    private static void inputTextOfAnyLength() {
        String name = "Input text: rehearsals as a text, of any length";
        String nineParts = "0-1*1;".repeat(9);
        dueError(name, nineParts + "0-1*1;", 60);
        dueError(name, nineParts + "0-1*1:", 59);
        dueError(name, nineParts + "0-1*11", 60);
        dueError(name, nineParts + "90-10*", 60);
        dueError(name, nineParts + "90-100", 59);
        dueError(name, "0-1*11;" + "0-1*1;".repeat(8) + "0-1*;", 59);
        dueError(name, "0-1*11;" + "0-1*1;".repeat(8) + "0-1*1", 60);
        dueError(name, "0-1*1;".repeat(8) + "10-11*12;10-", 60);
    }

    private static void inputTextReadFromLeftToRight() {
        String name = "Input text: read from left to right";
        dueError(name, "x", 0);
        dueError(name, "xx", 0);
        dueError(name, "8x12x5", 1);
        dueError(name, "8-12x5;", 4);
        dueError(name, "8-12*x", 5);
        dueError(name, "8-12*5x;8-12*5", 6);
        dueError(name, "8-12*5;96-97*51", 8);
    }

    private static void inputTextSignsBetween() {
        String name = "Input text: a begin, \"-\", an end, \"*\", and a fame, \";\" between them";
        dueError(name, "-", 0);
        dueError(name, "*", 0);
        dueError(name, "8*", 1);
        dueError(name, "8;", 1);
        dueError(name, "8--", 2);
        dueError(name, "8-*", 2);
        dueError(name, "8-12-", 4);
        dueError(name, "8-12;", 4);
        dueError(name, "8-12**", 5);
        dueError(name, "8-12*;", 5);
        dueError(name, "8-12*5-", 6);
        dueError(name, "8-12*5*", 6);
        dueError(name, "8-12*5;;", 7);
        dueError(name, "8-12*5;-", 7);
        // The neighbours of the digits in the table of characters.
        dueError(name, "/", 0);
        dueError(name, ":", 0);
        dueError(name, "1/", 1);
        dueError(name, "1:", 1);
    }

    private static void promise10Code() {
        Run.due(CHECKS, "promise 10: code, 33 to 126", """
                append MIN = throws.IllegalArgumentException
                append -1 = throws.IllegalArgumentException
                append 0 = throws.IllegalArgumentException
                append 32 = throws.IllegalArgumentException
                append 33 = 1
                append 126 = 2
                append 127 = throws.IllegalArgumentException
                append 128 = throws.IllegalArgumentException
                append 289 = throws.IllegalArgumentException
                append 65584 = throws.IllegalArgumentException
                append MAX = throws.IllegalArgumentException
                clearBuffer = 2
                """);
        for (int code = 33; code <= 126; code++) {
            CHECKS.due("promise 10: append(" + code + ")", new RehearsalRoom().append(code), 1);
        }
    }

    private static void promise10SixtyCharacters() {
        Run.due(CHECKS, "promise 10: 60 characters", """
                append 48 = 1
                append 45 = 2
                57 times: append 48
                append 42 = 60
                append 33 = throws.IllegalStateException
                append 126 = throws.IllegalStateException
                append 32 = throws.IllegalArgumentException
                append 127 = throws.IllegalArgumentException
                append MIN = throws.IllegalArgumentException
                append MAX = throws.IllegalArgumentException
                firstError = 2
                savedStates = 0
                clearBuffer = 60
                """);
    }

    private static void promise11LengthThatItHad() {
        Run.due(CHECKS, "promise 11: the length that it had", """
                clearBuffer = 0
                append 48 = 1
                clearBuffer = 1
                clearBuffer = 0
                60 times: append 59
                clearBuffer = 60
                firstError = 0
                read = throws.IllegalArgumentException
                append 48 = 1
                savedStates = 0
                undo = throws.IllegalStateException
                """);
    }

    private static void promise12WithoutAnError() {
        Run.due(CHECKS, "promise 12: the length of the buffer if there is none", """
                firstError = 0
                append 49 = 1
                firstError = 1
                append 50 = 2
                firstError = 2
                append 45 = 3
                firstError = 3
                append 49 = 4
                firstError = 4
                append 42 = 5
                firstError = 5
                append 53 = 6
                firstError = 6
                append 59 = 7
                firstError = 7
                append 42 = 8
                firstError = 7
                append 49 = 9
                firstError = 7
                clearBuffer = 9
                firstError = 0
                append 33 = 1
                firstError = 0
                """);
    }

    private static void promise12NothingIsChanged() {
        RehearsalRoom room = Some.room(0, 1, 7);
        RehearsalRoom twin = Some.room(0, 1, 7);
        Some.type(room, "8-12*5;9x");
        Some.type(twin, "8-12*5;9x");
        room.firstError();
        Shown.dueAlike(CHECKS, "promise 12: nothing is changed", Shown.of(room), Shown.of(twin));
    }

    /** On days that have places left, and on a full one. */
    private static void promise13NoRehearsalsAsAText() {
        String[] texts = {
            "", "8", "8-", "8-12", "8-12*", "8-12*5;", "8-12*5;9", "8-12*5;9-", "8-12*5;9-13", "8-12*5;9-13*", "x",
            "8-12*5x", ";8-12*5", "8-12*5;;9-13*5", "96-97*5", "8-97*5", "8-0*5", "8-12*0", "8-12*51", "08-12*5",
            "8-012*5", "8-12*05", "8*12-5", "8-12;5",
        };
        for (String text : texts) {
            dueNoRead("", text);
            dueNoRead("14 times: add 0 1 1\n", text);
        }
    }

    private static void dueNoRead(String day, String text) {
        String type = text.isEmpty() ? "" : "type " + text + "\n";
        Run.due(CHECKS, "promise 13: no rehearsals as a text",
                day + type + "read = throws.IllegalArgumentException\nclearBuffer = " + text.length());
    }

    private static void promise13SomeEndOutOfRange() {
        Run.due(CHECKS, "promise 13: some end out of range", """
                type 8-8*5
                read = throws.IllegalArgumentException
                clearBuffer = 5
                type 8-9*5
                read = 1
                type 95-95*5
                read = throws.IllegalArgumentException
                clearBuffer = 7
                type 95-96*5
                read = 2
                type 95-1*5
                read = throws.IllegalArgumentException
                clearBuffer = 6
                type 0-1*1;9-9*1;0-1*1
                read = throws.IllegalArgumentException
                clearBuffer = 17
                type 9-8*1;0-1*1
                read = throws.IllegalArgumentException
                clearBuffer = 11
                type 0-1*1;9-8*1
                read = throws.IllegalArgumentException
                rehearsals = 2
                """);
    }

    private static void promise13MoreThan14() {
        Run.due(CHECKS, "promise 13: more than 14", """
                type 0-1*1;0-1*2;0-1*3;0-1*4;0-1*5;0-1*6;0-1*7;0-1*8;0-1*9;0-1*10
                read = 10
                type 0-1*1;0-1*2;0-1*3;0-1*4;0-1*5
                read = throws.IllegalStateException
                strike 0
                read = 14
                fameOf 13 = 5
                type 0-1*6
                read = throws.IllegalStateException
                clearBuffer = 5
                read = throws.IllegalArgumentException
                type 1-1*1
                read = throws.IllegalArgumentException
                clearBuffer = 5
                strike 0
                type 1-2*1;1-2*2
                read = throws.IllegalStateException
                clearBuffer = 11
                type 1-2*1;2-2*2
                read = throws.IllegalArgumentException
                clearBuffer = 11
                type 1-2*1
                read = 14
                """);
    }

    /** Ten parts are the most that the buffer has room for. */
    private static void promise13MoreThan14ByTheLongestText() {
        Run.due(CHECKS, "promise 13: more than 14, by ten parts", """
                5 times: add 0 1 1
                type 0-1*1;0-1*2;0-1*3;0-1*4;0-1*5;0-1*6;0-1*7;0-1*8;0-1*9;0-1*8
                read = throws.IllegalStateException
                rehearsals = 5
                strike 0
                read = 14
                fameOf 13 = 8
                """);
    }

    private static void promise13AllOrNothing() {
        Run.due(CHECKS, "promise 13: all or nothing", """
                12 times: add 0 1 1
                type 1-2*1;2-3*2;3-4*3
                read = throws.IllegalStateException
                rehearsals = 12
                clearBuffer = 17
                type 1-2*1;2-3*2
                read = 14
                beginOf 12 = 1
                endOf 12 = 2
                fameOf 12 = 1
                beginOf 13 = 2
                endOf 13 = 3
                fameOf 13 = 2
                isBooked 13 = false
                """);
    }

    private static void promise13ClearsTheBuffer() {
        Run.due(CHECKS, "promise 13: clears the buffer", """
                type 0-96*50;95-96*1;0-1*25
                read = 3
                clearBuffer = 0
                beginOf 0 = 0
                endOf 0 = 96
                fameOf 0 = 50
                beginOf 1 = 95
                endOf 1 = 96
                fameOf 1 = 1
                firstError = 0
                read = throws.IllegalArgumentException
                append 49 = 1
                """);
    }

    private static void promise13UndoableAsOneCall() {
        Run.due(CHECKS, "promise 13: undoable, as one call", """
                add 5 6 7 = 0
                book 0 = 7
                type 0-1*1;0-1*2;0-1*3
                read = 4
                savedStates = 3
                type 9-
                undo
                savedStates = 2
                rehearsals = 1
                isBooked 0 = true
                clearBuffer = 2
                4 times: changePause 3
                savedStates = 6
                type 0-1*1;0-1*2;0-1*3
                read = 4
                savedStates = 6
                undo
                rehearsals = 1
                """);
    }
}
