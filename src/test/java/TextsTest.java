/** Promises 10 to 13: texts. */
public final class TextsTest {

    private static final Checks CHECKS = new Checks();

    public static void main(String[] args) {
        promise10();
        promise11();
        promise12();
        promise12Again();
        promise12Numbers();
        promise12EveryCharacter();
        promise13();
        promise13Refused();
        promise13Full();
        CHECKS.end();
    }

    private static void promise10() {
        RehearsalRoom room = new RehearsalRoom();
        for (int code : new int[] {32, 127, 0, -1, 256 + 48, Integer.MAX_VALUE, Integer.MIN_VALUE}) {
            CHECKS.refusedArgument(room, "append(" + code + ")", () -> room.append(code));
        }
        for (int length = 1; length <= 60; length++) {
            CHECKS.due("append", room.append(length % 2 == 0 ? 33 : 126), length);
        }
        CHECKS.refusedState(room, "append to 60", () -> room.append(48));
        CHECKS.refusedArgument(room, "append(32) to 60", () -> room.append(32));
        CHECKS.refusedArgument(room, "append(127) to 60", () -> room.append(127));
        CHECKS.due("savedStates()", room.savedStates(), 0);
        CHECKS.due("clearBuffer()", room.clearBuffer(), 60);
        CHECKS.due("append", room.append(48), 1);
    }

    private static void promise11() {
        RehearsalRoom room = new RehearsalRoom();
        CHECKS.due("clearBuffer()", room.clearBuffer(), 0);
        Some.type(room, "0-1*1");
        CHECKS.due("clearBuffer()", room.clearBuffer(), 5);
        CHECKS.due("clearBuffer()", room.clearBuffer(), 0);
        CHECKS.due("savedStates()", room.savedStates(), 0);
        CHECKS.due("firstError()", room.firstError(), 0);
        CHECKS.due("append", room.append(49), 1);
    }

    private static int errorOf(String text) {
        RehearsalRoom room = new RehearsalRoom();
        Some.type(room, text);
        long before = room.digest();
        int error = room.firstError();
        CHECKS.due("firstError() changes nothing", room.digest(), before);
        return error;
    }

    private static void dueError(String text, int want) {
        CHECKS.due("firstError() of " + text, errorOf(text), want);
    }

    private static void promise12() {
        dueError("", 0);
        dueError("8", 1);
        dueError("8-", 2);
        dueError("8-12*5", 6);
        dueError("8-12*5;", 7);
        dueError("8-12*5;0-96*50", 14);
        dueError("8-12*5;;", 7);
        dueError("-", 0);
        dueError(";8-12*5", 0);
        dueError("8--12", 2);
        dueError("8*12", 1);
        dueError("8-12-5", 4);
        dueError("8-12;5", 4);
        dueError("8-*5", 2);
        dueError("8-12*;", 5);
        dueError("8-12**", 5);
        dueError("8-12*5*", 6);
        dueError("8-12*5-", 6);
        dueError("20-10*5", 7);
        dueError("x", 0);
        dueError("8-12*5;8-12*x;", 12);
        dueError("08-12*5", 1);
        dueError("8-012*5", 2);
        dueError("8-12*05", 5);
        dueError("0-1*1;0-1*1;0-1*1;0-1*1;0-1*1;0-1*1;0-1*1;0-1*1;0-1*1;0-1*1;", 60);
        dueError("0-1*1;0-1*1;0-1*1;0-1*1;0-1*1;0-1*1;0-1*1;0-1*1;0-1*1;0-1*1?", 59);
    }

    private static void promise12Again() {
        RehearsalRoom room = new RehearsalRoom();
        Some.type(room, "8-12*5;1");
        CHECKS.due("firstError()", room.firstError(), 8);
        CHECKS.due("firstError() again", room.firstError(), 8);
        room.clearBuffer();
        Some.type(room, "9-10*6");
        CHECKS.due("firstError() of another text", room.firstError(), 6);
        CHECKS.due("read() behind firstError()", room.read(), 1);
        CHECKS.due("firstError() behind read()", room.firstError(), 0);
        CHECKS.due("beginOf(0)", room.beginOf(0), 9);
    }

    private static void promise12Numbers() {
        for (int number = 0; number <= 120; number++) {
            int length = String.valueOf(number).length();
            dueError(number + "-", number <= 95 ? length + 1 : length - 1);
            int end = number == 0 ? 0 : number <= 96 ? length + 1 : length - 1;
            dueError("0-" + number + "*", 2 + end);
            int fame = number == 0 ? 0 : number <= 50 ? length + 1 : length - 1;
            dueError("0-1*" + number + ";", 4 + fame);
            for (String text : new String[] {"0" + number + "-1*1", "3-0" + number + "*1", "3-4*0" + number}) {
                dueError(text, Model.firstError(text));
            }
        }
    }

    /** Behind each beginning of a text each of the 94 characters. */
    private static void promise12EveryCharacter() {
        String text = "9-96*50;95-9*5;10-8*1;0-1*49";
        for (int length = 0; length <= text.length(); length++) {
            for (int code = 33; code <= 126; code++) {
                String typed = text.substring(0, length) + (char) code;
                dueError(typed, Model.firstError(typed));
            }
        }
    }

    private static void promise13() {
        RehearsalRoom room = Some.room(3, 4, 2);
        room.book(0);
        room.changePause(4);
        Some.type(room, "8-12*5;0-96*50;95-96*1");
        int saved = room.savedStates();
        CHECKS.due("read()", room.read(), 4);
        CHECKS.due("savedStates()", room.savedStates(), saved + 1);
        CHECKS.due("beginOf(1)", room.beginOf(1), 8);
        CHECKS.due("endOf(1)", room.endOf(1), 12);
        CHECKS.due("fameOf(1)", room.fameOf(1), 5);
        CHECKS.due("beginOf(2)", room.beginOf(2), 0);
        CHECKS.due("endOf(2)", room.endOf(2), 96);
        CHECKS.due("fameOf(2)", room.fameOf(2), 50);
        CHECKS.due("beginOf(3)", room.beginOf(3), 95);
        CHECKS.due("fameOf(3)", room.fameOf(3), 1);
        CHECKS.due("booked()", room.booked(), 1);
        CHECKS.due("pause()", room.pause(), 4);
        CHECKS.due("clearBuffer() after read()", room.clearBuffer(), 0);
        Some.type(room, "1-");
        room.undo();
        CHECKS.due("rehearsals() after undo()", room.rehearsals(), 1);
        CHECKS.due("clearBuffer() after undo()", room.clearBuffer(), 2);
    }

    private static void dueNoRead(RehearsalRoom room, String text) {
        Some.type(room, text);
        CHECKS.refusedArgument(room, "read() of " + text, () -> room.read());
        CHECKS.due("the buffer after read() of " + text, room.clearBuffer(), text.length());
    }

    private static void promise13Refused() {
        String[] texts = {
            "", "8", "8-", "8-1", "8-12*", "8-12*5;", ";", "8-12*5;;8-12*5", "8-12*5;9", "8-12*5;9-10*", "x",
            "8-12*51", "96-97*1", "8-12*0", "8-8*5", "8-7*5", "95-1*1", "8-12*5;10-10*1", "10-9*1;8-12*5",
            "8-12*5x", "08-12*5", "8-12*5;1-2*1;5-4*3",
        };
        RehearsalRoom room = new RehearsalRoom();
        for (String text : texts) {
            dueNoRead(room, text);
        }
        RehearsalRoom full = Some.apart(14);
        for (String text : texts) {
            dueNoRead(full, text);
        }
    }

    private static void promise13Full() {
        RehearsalRoom room = Some.apart(12);
        Some.type(room, "1-2*1;3-4*2;5-6*3");
        CHECKS.refusedState(room, "read() of 3 to 12", () -> room.read());
        CHECKS.due("clearBuffer()", room.clearBuffer(), 17);
        Some.type(room, "1-2*1;3-4*2;6-5*3");
        CHECKS.refusedArgument(room, "read() of 3 to 12, one with a wrong end", () -> room.read());
        CHECKS.due("clearBuffer()", room.clearBuffer(), 17);
        Some.type(room, "1-2*1;3-4*2");
        CHECKS.due("read() of 2 to 12", room.read(), 14);
        CHECKS.due("fameOf(13)", room.fameOf(13), 2);
        Some.type(room, "1-2*1");
        CHECKS.refusedState(room, "read() of 1 to 14", () -> room.read());
        RehearsalRoom ten = new RehearsalRoom();
        Some.type(ten, "0-1*1;0-1*2;0-1*3;0-1*4;0-1*5;0-1*6;0-1*7;0-1*8;0-1*9;0-1*10");
        CHECKS.due("read() of 10", ten.read(), 10);
        CHECKS.due("fameOf(9)", ten.fameOf(9), 10);
        CHECKS.due("savedStates()", ten.savedStates(), 1);
    }
}
