import java.util.ArrayList;
import java.util.List;
import java.util.Map;
import java.util.TreeMap;

// Compares long mixed runs with a second, independent telling of the document:
// routes are kept by their beginnings written as texts of 0s and 1s.
public final class ModelTest {
    private static final int RUNS = 90;
    private static final int CALLS = 512;
    private static final int METHODS = 14;

    private static int wrong = 0;

    private final Map<String, Integer> routes = new TreeMap<>();

    public static void main(String[] args) {
        for (int run = 1; run <= RUNS && wrong < 20; run++) {
            runOne(run);
        }
        System.out.println(wrong == 0 ? "the model agrees" : wrong + " answers differ from the model");
        if (wrong != 0) {
            System.exit(1);
        }
    }

    private static void runOne(int run) {
        Numbers numbers = new Numbers(run);
        RouteTable table = new RouteTable();
        ModelTest model = new ModelTest();
        // Few goals make idle routes and joined spans common.
        int goals = run % 3 == 0 ? 100 : 1 + run % 3;
        // Some runs stay inside a few addresses, so that routes cover each other.
        int width = run % 2 == 0 ? 256 : 8;
        for (int call = 1; call <= CALLS; call++) {
            boolean isChange = numbers.below(2) == 0;
            int method = isChange ? numbers.below(10) / 8 : numbers.below(METHODS);
            int bits = numbers.below(15) == 0 ? numbers.below(60) - 25 : numbers.below(9);
            int address = numbers.below(width);
            if (bits >= 0 && bits <= 8 && numbers.below(10) != 0) {
                address &= ~(255 >> bits);
            }
            if (numbers.below(25) == 0) {
                address = numbers.below(900) - 400;
            }
            int goal = numbers.below(20) == 0 ? numbers.below(210) - 100 : numbers.below(goals);
            if (method == 2 && numbers.below(10) != 0) {
                method = 12;
            }
            compare(run, call, method, new int[] {address, bits, goal}, table, model);
        }
    }

    private static void compare(int run, int call, int method, int[] given, RouteTable table, ModelTest model) {
        int got = askTable(method, given, table);
        int due = model.ask(method, given);
        if (got != due) {
            wrong++;
            System.out.println("run " + run + ", call " + call + ": method " + method + " of " + given[0] + ", "
                + given[1] + ", " + given[2] + " answered " + got + ", due is " + due);
        }
    }

    private static int askTable(int method, int[] given, RouteTable table) {
        int address = given[0];
        int bits = given[1];
        int goal = given[2];
        switch (method) {
            case 0: return table.put(address, bits, goal) ? 1 : 0;
            case 1: return table.drop(address, bits) ? 1 : 0;
            case 2: table.clear(); return 0;
            case 3: return table.routes();
            case 4: return table.exact(address, bits);
            case 5: return table.goal(address);
            case 6: return table.bits(address);
            case 7: return table.matching(address);
            case 8: return table.next(address, goal);
            case 9: return table.load(address, bits);
            case 10: return table.sent(goal);
            case 11: return table.idle(address, bits) ? 1 : 0;
            case 12: return table.spans();
            default: return table.spanStart(bits);
        }
    }

    private int ask(int method, int[] given) {
        int address = given[0];
        int bits = given[1];
        int goal = given[2];
        String beginning = beginning(address, bits);
        boolean present = routes.containsKey(beginning);
        switch (method) {
            case 0: return put(beginning, goal);
            case 1: return routes.remove(beginning) != null ? 1 : 0;
            case 2: routes.clear(); return 0;
            case 3: return routes.size();
            case 4: return present ? routes.get(beginning) : -1;
            case 5: return goalOf(address);
            case 6: return matches(address).isEmpty() ? -1 : longest(address).length();
            case 7: return matches(address).size();
            case 8: return next(address, goal);
            case 9: return present ? load(beginning) : -1;
            case 10: return (int) allGoals().stream().filter(sentTo -> sentTo == goal).count();
            case 11: return present && isIdle(beginning) ? 1 : 0;
            case 12: return spanStarts().size();
            default: return bits >= 0 && bits < spanStarts().size() ? spanStarts().get(bits) : -1;
        }
    }

    private static String written(int address) {
        String text = "0000000" + Integer.toBinaryString(address);
        return text.substring(text.length() - 8);
    }

    // A text that is no beginning, so that no route is found for it.
    private static String beginning(int address, int bits) {
        if (address < 0 || address > 255 || bits < 0 || bits > 8) {
            return "wrong";
        }
        String text = written(address);
        return text.substring(bits).contains("1") ? "wrong" : text.substring(0, bits);
    }

    private int put(String beginning, int goal) {
        if (beginning.equals("wrong") || goal < 0 || goal > 99) {
            return 0;
        }
        routes.put(beginning, goal);
        return 1;
    }

    private List<String> matches(int address) {
        List<String> found = new ArrayList<>();
        if (address >= 0 && address <= 255) {
            for (String beginning : routes.keySet()) {
                if (written(address).startsWith(beginning)) {
                    found.add(beginning);
                }
            }
        }
        return found;
    }

    private String longest(int address) {
        String best = "";
        for (String beginning : matches(address)) {
            best = beginning.length() > best.length() ? beginning : best;
        }
        return best;
    }

    private int goalOf(int address) {
        return matches(address).isEmpty() ? -1 : routes.get(longest(address));
    }

    private List<Integer> allGoals() {
        List<Integer> goals = new ArrayList<>();
        for (int address = 0; address <= 255; address++) {
            goals.add(goalOf(address));
        }
        return goals;
    }

    private int next(int from, int goal) {
        List<Integer> goals = allGoals();
        for (int address = 0; address <= 255; address++) {
            if (address >= from && goal != -1 && goals.get(address) == goal) {
                return address;
            }
        }
        return -1;
    }

    private int load(String beginning) {
        int count = 0;
        for (int address = 0; address <= 255; address++) {
            if (!matches(address).isEmpty() && longest(address).equals(beginning)) {
                count++;
            }
        }
        return count;
    }

    private boolean isIdle(String beginning) {
        List<Integer> before = allGoals();
        int goal = routes.remove(beginning);
        List<Integer> after = allGoals();
        routes.put(beginning, goal);
        return before.equals(after);
    }

    private List<Integer> spanStarts() {
        List<Integer> goals = allGoals();
        List<Integer> starts = new ArrayList<>();
        for (int address = 0; address <= 255; address++) {
            if (address == 0 || !goals.get(address).equals(goals.get(address - 1))) {
                starts.add(address);
            }
        }
        return starts;
    }

    // The same numbers every time: a failed run can be run again.
    private static final class Numbers {
        private long state;

        Numbers(int seed) {
            state = seed * 7919L + 1;
        }

        int below(int bound) {
            state = state * 6364136223846793005L + 1442695040888963407L;
            return (int) ((state >>> 33) % bound);
        }
    }
}
