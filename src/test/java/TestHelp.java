import java.util.ArrayList;
import java.util.LinkedHashMap;
import java.util.List;
import java.util.Map;
import java.util.function.Consumer;

// What the tests have in common. Every test has a virtual machine of its own,
// so the count of wrong answers is that test's alone.
abstract class TestHelp {
    // Written out, so that a wrong constant in the class is not followed.
    static final int NONE = -1;
    static final int LEAST = Integer.MIN_VALUE;
    static final int GREATEST = Integer.MAX_VALUE;

    // Just outside, far outside, and what a mask, a shift or a wrap-around
    // could take for a number inside.
    static final int[] NO_ADDRESSES = {
        -1, 256, -2, 257, -64, -128, -255, -256, -257, 300, 384, 511, 512, 65536, -65536, 1 << 24,
        LEAST, LEAST + 1, LEAST + 255, GREATEST - 255, GREATEST - 1, GREATEST,
    };
    static final int[] NO_BITS = {
        -1, 9, -2, 10, -8, 16, -24, -25, 24, 31, 32, 33, 36, 40, -32, 64, 256, -256,
        LEAST, LEAST + 8, GREATEST - 7, GREATEST,
    };
    static final int[] NO_GOALS = {
        -1, 100, -2, 101, -99, -100, 127, 128, 255, 256, 512, -256, 65536, -65536,
        LEAST, LEAST + 1, LEAST + 99, GREATEST - 99, GREATEST - 1, GREATEST,
    };

    // Enough to see what is broken; a broken class may also be very slow.
    private static final int ENOUGH = 40;

    private static int wrong = 0;

    static void same(String what, long got, long due) {
        if (got == due) {
            return;
        }
        wrong++;
        System.out.println(what + " answered " + got + ", due is " + due);
        if (wrong == ENOUGH) {
            end("");
        }
    }

    static void yes(String what, boolean got) {
        same(what, got ? 1 : 0, 1);
    }

    static void no(String what, boolean got) {
        same(what, got ? 1 : 0, 0);
    }

    static void end(String good) {
        System.out.println(wrong == 0 ? good : wrong + " answers are wrong");
        if (wrong != 0) {
            System.exit(1);
        }
    }

    // How many addresses follow each other in a beginning.
    static int width(int bits) {
        return 256 >> bits;
    }

    // All 511 beginnings, each as {address, bits}.
    static List<int[]> beginnings() {
        List<int[]> all = new ArrayList<>();
        for (int bits = 0; bits <= 8; bits++) {
            for (int address = 0; address < 256; address += width(bits)) {
                all.add(new int[] {address, bits});
            }
        }
        return all;
    }

    // Arguments that are no beginning: of each the bits, the address, or a 1
    // among the address's other bits is wrong.
    static List<int[]> noBeginnings() {
        List<int[]> all = new ArrayList<>();
        for (int bits : NO_BITS) {
            all.add(new int[] {0, bits});
            all.add(new int[] {128, bits});
            all.add(new int[] {255, bits});
        }
        for (int address : NO_ADDRESSES) {
            all.add(new int[] {address, 0});
            all.add(new int[] {address, 1});
            all.add(new int[] {address, 4});
            all.add(new int[] {address, 8});
        }
        for (int bits = 0; bits < 8; bits++) {
            int width = width(bits);
            all.add(new int[] {1, bits});
            all.add(new int[] {width / 2, bits});
            all.add(new int[] {width - 1, bits});
            all.add(new int[] {256 - width / 2, bits});
            all.add(new int[] {255, bits});
        }
        all.add(new int[] {LEAST, LEAST});
        all.add(new int[] {GREATEST, GREATEST});
        all.add(new int[] {-1, -1});
        all.add(new int[] {256, 9});
        return all;
    }

    static String text(int[] given) {
        StringBuilder text = new StringBuilder("(");
        for (int i = 0; i < given.length; i++) {
            text.append(i == 0 ? "" : ", ").append(given[i]);
        }
        return text.append(")").toString();
    }

    static RouteTable after(Consumer<RouteTable> history) {
        RouteTable table = new RouteTable();
        history.accept(table);
        return table;
    }

    // One route alone.
    static RouteTable only(int address, int bits, int goal) {
        return after(x -> x.put(address, bits, goal));
    }

    static void nothing(RouteTable x) {
    }

    // Routes at both ends of each range, inside each other and side by side.
    static void some(RouteTable x) {
        x.put(0, 0, 5);
        x.put(0, 8, 0);
        x.put(0, 1, 6);
        x.put(192, 2, 7);
        x.put(192, 4, 5);
        x.put(254, 7, 98);
        x.put(255, 8, 99);
    }

    static int goalInFull(int address, int bits) {
        return (address * 7 + bits * 3) % 100;
    }

    // The first routes of a full table; all 511 make it full.
    static void fill(RouteTable x, int routes) {
        List<int[]> all = beginnings();
        for (int i = 0; i < routes; i++) {
            int[] route = all.get(i);
            x.put(route[0], route[1], goalInFull(route[0], route[1]));
        }
    }

    // What two histories leave behind is the same for every question. A history
    // has at most 511 calls, for an object is good for 512.
    static void sameState(String what, Consumer<RouteTable> history, Consumer<RouteTable> due) {
        sameAnswers(what, allAnswers(history), allAnswers(due));
    }

    static void sameAnswers(String what, Map<String, Integer> got, Map<String, Integer> due) {
        for (Map.Entry<String, Integer> entry : due.entrySet()) {
            same(what + ", then " + entry.getKey(), got.get(entry.getKey()), entry.getValue());
        }
    }

    // Every question goes to an object of its own with the same history, so
    // that no question can spoil the next one or use its calls up.
    static Map<String, Integer> allAnswers(Consumer<RouteTable> history) {
        Map<String, Integer> answers = new LinkedHashMap<>();
        answers.put("routes()", after(history).routes());
        answers.put("spans()", after(history).spans());
        for (int[] beginning : beginnings()) {
            int address = beginning[0];
            int bits = beginning[1];
            answers.put("exact" + text(beginning), after(history).exact(address, bits));
            answers.put("load" + text(beginning), after(history).load(address, bits));
            answers.put("idle" + text(beginning), after(history).idle(address, bits) ? 1 : 0);
        }
        for (int address = 0; address < 256; address++) {
            answers.put("goal(" + address + ")", after(history).goal(address));
            answers.put("bits(" + address + ")", after(history).bits(address));
            answers.put("matching(" + address + ")", after(history).matching(address));
            answers.put("spanStart(" + address + ")", after(history).spanStart(address));
        }
        for (int goal = 0; goal < 100; goal++) {
            answers.put("sent(" + goal + ")", after(history).sent(goal));
            answers.put("next(0, " + goal + ")", after(history).next(0, goal));
        }
        answers.put("sent(NONE)", after(history).sent(NONE));
        return answers;
    }
}
