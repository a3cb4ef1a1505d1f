import java.lang.reflect.Method;
import java.util.ArrayList;
import java.util.Arrays;
import java.util.List;
import java.util.Random;

/** Runs of 512 calls, the same ones at each start, on a room and on the model of the document. */
public final class RandomRunsTest {

    private static final int RUNS = 400;
    private static final int CALLS = 512;
    private static final int DIGEST_EVERY = 32;
    private static final int[] STRANGE = {
        -1, 0, 1, 13, 14, 15, 31, 32, 64, 95, 96, 97, Integer.MIN_VALUE, Integer.MAX_VALUE,
    };
    private static final String[] CHANGING = {
        "add", "add", "add", "add", "add", "strike", "move", "move", "changeFame", "changePause", "book", "book",
        "book", "cancel", "bookBest", "read", "keep", "goBack", "undo", "undo",
    };

    private final Checks checks;
    private final Random random;
    private final RehearsalRoom room = new RehearsalRoom();
    private final Model model = new Model();
    private final List<Method> asking = new ArrayList<>();
    private final int longest;
    private final int greatestFame;
    private final int longestPause;
    private final List<String> run = new ArrayList<>();
    private int left = CALLS;
    private boolean differs = false;

    private RandomRunsTest(Checks checks, int seed) {
        this.checks = checks;
        random = new Random(seed);
        longest = new int[] {2, 6, 12, 30, 96}[seed % 5];
        greatestFame = new int[] {2, 5, 50}[seed % 3];
        longestPause = new int[] {0, 2, 8}[seed / 3 % 3];
        for (Method it : Model.class.getMethods()) {
            if (it.getDeclaringClass() == Model.class && !Arrays.asList(CHANGING).contains(it.getName())
                    && !it.getName().equals("digest") && !it.getName().equals("append")) {
                asking.add(it);
            }
        }
        asking.sort((one, other) -> one.getName().compareTo(other.getName()));
    }

    public static void main(String[] args) {
        Checks checks = new Checks();
        for (int seed = 0; seed < RUNS; seed++) {
            new RandomRunsTest(checks, seed).go();
        }
        checks.end();
    }

    private void go() {
        while (left > 0 && !differs) {
            step();
            if (left % DIGEST_EVERY == 0) {
                call("digest");
            }
        }
    }

    private void step() {
        int kind = random.nextInt(20);
        if (kind < 9) {
            Method it = asking.get(random.nextInt(asking.size()));
            int[] arguments = new int[it.getParameterCount()];
            for (int place = 0; place < arguments.length; place++) {
                arguments[place] = mostlyBelow(Math.max(1, model.rehearsals()));
            }
            call(it.getName(), arguments);
        } else if (kind < 19) {
            change(CHANGING[random.nextInt(CHANGING.length)]);
        } else {
            type();
        }
    }

    private void change(String name) {
        int rehearsal = mostlyBelow(Math.max(1, model.rehearsals()));
        int begin = mostlyBelow(96);
        int end = random.nextInt(30) == 0 ? strange() : endBehind(Math.abs(begin % 96));
        int fame = 1 + mostlyBelow(greatestFame);
        switch (name) {
            case "add" -> call(name, begin, end, fame);
            case "move" -> call(name, rehearsal, begin, end);
            case "changeFame" -> call(name, rehearsal, fame);
            case "changePause" -> call(name, mostlyBelow(longestPause + 1));
            case "keep", "goBack" -> call(name, mostlyBelow(2));
            case "strike", "book", "cancel" -> call(name, rehearsal);
            default -> call(name);
        }
    }

    /** Types a text, in one of four with a character that may be wrong, and tries to read it. */
    private void type() {
        StringBuilder text = new StringBuilder();
        int parts = 1 + random.nextInt(5);
        for (int part = 0; part < parts; part++) {
            int begin = random.nextInt(96);
            int end = random.nextInt(20) == 0 ? 1 + random.nextInt(96) : endBehind(begin);
            text.append(part == 0 ? "" : ";").append(begin).append('-').append(end);
            text.append('*').append(1 + random.nextInt(greatestFame));
        }
        if (random.nextInt(4) == 0) {
            int place = random.nextInt(text.length());
            text.setCharAt(place, "0123456789-*;x".charAt(random.nextInt(14)));
        }
        if (random.nextInt(4) > 0) {
            call("clearBuffer");
        }
        for (int place = 0; place < text.length(); place++) {
            call("append", random.nextInt(200) == 0 ? strange() : text.charAt(place));
        }
        call("firstError");
        call("read");
    }

    private int endBehind(int begin) {
        return Math.min(96, begin + 1 + random.nextInt(longest));
    }

    private int mostlyBelow(int bound) {
        return random.nextInt(30) == 0 ? strange() : random.nextInt(bound);
    }

    private int strange() {
        return STRANGE[random.nextInt(STRANGE.length)];
    }

    private void call(String name, int... arguments) {
        if (left == 0 || differs) {
            return;
        }
        left--;
        String told = name + Arrays.toString(arguments);
        String want = Calls.answer(model, name, arguments);
        String got = Calls.answer(room, name, arguments);
        run.add(told + " -> " + want);
        checks.dueText(told, got, want);
        if (!got.equals(want)) {
            differs = true;
            System.out.println("behind the calls " + run);
        }
    }
}
