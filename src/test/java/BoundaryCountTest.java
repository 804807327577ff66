import java.util.ArrayList;
import java.util.List;

// The boundary cases that promises 11 to 15 name, on both sides: load, sent,
// idle, spans and spanStart.
public final class BoundaryCountTest extends TestHelp {
    public static void main(String[] args) {
        promise11NoneWhenThereIsNone();
        promise11FromAllDownToNoAddress();
        promise11NoneWhenItIsNoBeginning();
        promise12From0To256();
        promise12NoneForThoseThatNoRouteMatches();
        promise12ZeroWhenItIsNoGoal();
        promise13SameGoalWithoutIt();
        promise13OrToNone();
        promise13EveryAddressCounts();
        promise13ItsNeighboursDoNotCount();
        promise13FalseWhenThereIsNone();
        promise13FalseWhenItIsNoBeginning();
        promise14OrAllToNone();
        promise14LongestSpans();
        promise14LastSpanIsNotJoinedToTheFirst();
        promise14And15From1To256();
        promise15StartsOfOneRoute();
        promise15NoneWhenThereIsNone();
        end("the boundary cases of promises 11 to 15 hold");
    }

    // The two beginnings with one bit more share out what a beginning matches.
    private static void putLowerHalf(RouteTable x, int[] at, int goal) {
        x.put(at[0], at[1] + 1, goal);
    }

    private static void putUpperHalf(RouteTable x, int[] at, int goal) {
        x.put(at[0] + width(at[1] + 1), at[1] + 1, goal);
    }

    private static void promise11NoneWhenThereIsNone() {
        for (int[] at : beginnings()) {
            int address = at[0];
            int bits = at[1];
            same("11: load" + text(at) + " of none", new RouteTable().load(address, bits), NONE);
            RouteTable x = only(address, bits, 0);
            same("11: load" + text(at), x.load(address, bits), width(bits));
            same("11: load of the one before " + text(at), x.load(address - width(bits), bits), NONE);
            same("11: load of the one behind " + text(at), x.load(address + width(bits), bits), NONE);
            if (bits > 0) {
                same("11: load, a bit fewer than " + text(at), x.load(address & -width(bits - 1), bits - 1), NONE);
            }
            if (bits < 8) {
                same("11: load, a bit more than " + text(at), x.load(address, bits + 1), NONE);
            }
            x.drop(address, bits);
            same("11: load" + text(at) + " after drop", x.load(address, bits), NONE);
        }
    }

    // A covered route is there though it sends nothing: 0, not NONE.
    private static void promise11FromAllDownToNoAddress() {
        for (int[] at : beginnings()) {
            if (at[1] == 8) {
                continue;
            }
            RouteTable x = only(at[0], at[1], 1);
            putLowerHalf(x, at, 1);
            same("11: load" + text(at) + ", lower half covered", x.load(at[0], at[1]), width(at[1]) / 2);
            putUpperHalf(x, at, 2);
            same("11: load" + text(at) + ", covered", x.load(at[0], at[1]), 0);
            x.drop(at[0], at[1] + 1);
            same("11: load" + text(at) + ", upper half covered", x.load(at[0], at[1]), width(at[1]) / 2);
        }
        RouteTable y = only(0, 0, 1);
        for (int address = 0; address < 256; address++) {
            same("11: load(0, 0)", y.load(0, 0), 256 - address);
            // Past the 250th put the calls would run out.
            if (address == 250) {
                break;
            }
            y.put(address, 8, 1);
        }
        RouteTable z = only(0, 0, 1);
        for (int address = 0; address < 256; address++) {
            z.put(address, 8, 1);
        }
        same("11: load(0, 0) covered by 256", z.load(0, 0), 0);
        z.drop(255, 8);
        same("11: load(0, 0) covered by 255", z.load(0, 0), 1);
    }

    private static void promise11NoneWhenItIsNoBeginning() {
        for (int[] at : noBeginnings()) {
            same("11: empty, load" + text(at), new RouteTable().load(at[0], at[1]), NONE);
            same("11: some, load" + text(at), after(TestHelp::some).load(at[0], at[1]), NONE);
            same("11: full, load" + text(at), after(x -> fill(x, 511)).load(at[0], at[1]), NONE);
        }
    }

    private static void promise12From0To256() {
        for (int goal = 0; goal < 100; goal++) {
            same("12: empty, sent(" + goal + ")", new RouteTable().sent(goal), 0);
            RouteTable x = only(0, 0, goal);
            same("12: all, sent(" + goal + ")", x.sent(goal), 256);
            same("12: all, sent of another goal", x.sent((goal + 1) % 100), 0);
            x.put(255, 8, (goal + 1) % 100);
            same("12: all but the last, sent(" + goal + ")", x.sent(goal), 255);
            same("12: the last, sent of another goal", x.sent((goal + 1) % 100), 1);
        }
    }

    private static void promise12NoneForThoseThatNoRouteMatches() {
        same("12: empty, sent(NONE)", new RouteTable().sent(NONE), 256);
        for (int[] at : beginnings()) {
            for (int goal : new int[] {0, 99}) {
                RouteTable x = only(at[0], at[1], goal);
                same("12: sent of its goal, " + text(at), x.sent(goal), width(at[1]));
                same("12: sent(NONE), " + text(at), x.sent(NONE), 256 - width(at[1]));
                x.drop(at[0], at[1]);
                same("12: sent(NONE) after drop" + text(at), x.sent(NONE), 256);
            }
        }
        RouteTable y = only(0, 1, 0);
        y.put(128, 1, 99);
        same("12: sent(NONE) when two match all", y.sent(NONE), 0);
        y.clear();
        same("12: sent(NONE) after clear", y.sent(NONE), 256);
    }

    private static void promise12ZeroWhenItIsNoGoal() {
        for (int goal : NO_GOALS) {
            if (goal == NONE) {
                continue;
            }
            same("12: empty, sent(" + goal + ")", new RouteTable().sent(goal), 0);
            same("12: half matched, sent(" + goal + ")", only(128, 1, 99).sent(goal), 0);
            same("12: all matched, sent(" + goal + ")", only(0, 0, 0).sent(goal), 0);
            same("12: full, sent(" + goal + ")", after(x -> fill(x, 511)).sent(goal), 0);
        }
    }

    private static void promise13SameGoalWithoutIt() {
        for (int[] at : beginnings()) {
            int address = at[0];
            int bits = at[1];
            for (int fewer = 0; fewer < bits; fewer++) {
                int first = address / width(fewer) * width(fewer);
                RouteTable x = only(address, bits, 50);
                x.put(first, fewer, 50);
                yes("13: idle" + text(at) + ", same goal at " + fewer + " bits", x.idle(address, bits));
                x.put(first, fewer, 51);
                no("13: idle" + text(at) + ", goal one more at " + fewer + " bits", x.idle(address, bits));
                x.put(first, fewer, 49);
                no("13: idle" + text(at) + ", goal one less at " + fewer + " bits", x.idle(address, bits));
            }
        }
    }

    private static void promise13OrToNone() {
        for (int[] at : beginnings()) {
            int address = at[0];
            int bits = at[1];
            for (int goal : new int[] {0, 99}) {
                no("13: idle" + text(at) + ", none without it", only(address, bits, goal).idle(address, bits));
            }
            if (bits == 8) {
                continue;
            }
            // What is sent to none stays so; what it matches is sent by others.
            RouteTable x = only(address, bits, 1);
            putLowerHalf(x, at, 2);
            no("13: idle" + text(at) + ", upper half to none without it", x.idle(address, bits));
            putUpperHalf(x, at, 3);
            yes("13: idle" + text(at) + ", covered", x.idle(address, bits));
            x.drop(address, bits + 1);
            no("13: idle" + text(at) + ", lower half to none without it", x.idle(address, bits));
        }
    }

    // One address that would be sent elsewhere is enough, wherever it stands.
    private static void promise13EveryAddressCounts() {
        for (int left = 0; left < 256; left++) {
            RouteTable x = only(0, 0, 1);
            for (int address = 0; address < 256; address++) {
                if (address != left) {
                    x.put(address, 8, 2);
                }
            }
            no("13: idle(0, 0) with " + left + " left to it", x.idle(0, 0));
            x.put(left, 8, 1);
            yes("13: idle(0, 0) with no address left to it", x.idle(0, 0));
        }
    }

    // The routes before and behind with as many bits are not left out with it.
    private static void promise13ItsNeighboursDoNotCount() {
        for (int[] at : beginnings()) {
            int address = at[0];
            int bits = at[1];
            if (bits == 0) {
                continue;
            }
            RouteTable x = only(0, 0, 1);
            x.put(address, bits, 1);
            x.put(address - width(bits), bits, 2);
            x.put(address + width(bits), bits, 2);
            yes("13: idle" + text(at) + " between two that are not", x.idle(address, bits));
            x.put(address, bits, 2);
            x.put(address - width(bits), bits, 1);
            x.put(address + width(bits), bits, 1);
            no("13: idle" + text(at) + " between two that are", x.idle(address, bits));
        }
    }

    private static void promise13FalseWhenThereIsNone() {
        for (int[] at : beginnings()) {
            int address = at[0];
            int bits = at[1];
            no("13: empty, idle" + text(at), new RouteTable().idle(address, bits));
            if (bits == 0) {
                continue;
            }
            for (int goal = 0; goal < 100; goal++) {
                no("13: idle" + text(at) + " never put", only(0, 0, goal).idle(address, bits));
            }
            RouteTable x = only(0, 0, 4);
            x.put(address, bits, 4);
            yes("13: idle" + text(at) + " put", x.idle(address, bits));
            no("13: idle of the one before " + text(at), x.idle(address - width(bits), bits));
            no("13: idle of the one behind " + text(at), x.idle(address + width(bits), bits));
            x.drop(address, bits);
            no("13: idle" + text(at) + " dropped", x.idle(address, bits));
        }
    }

    private static void promise13FalseWhenItIsNoBeginning() {
        for (int[] at : noBeginnings()) {
            no("13: empty, idle" + text(at), new RouteTable().idle(at[0], at[1]));
            no("13: one goal everywhere, idle" + text(at), after(BoundaryCountTest::oneGoal).idle(at[0], at[1]));
            no("13: full, idle" + text(at), after(x -> fill(x, 511)).idle(at[0], at[1]));
        }
    }

    // Every route but the first is idle.
    private static void oneGoal(RouteTable x) {
        for (int bits = 0; bits <= 8; bits++) {
            x.put(0, bits, 1);
            x.put(256 - width(bits), bits, 1);
        }
    }

    private static void promise14OrAllToNone() {
        same("14: spans() of none", new RouteTable().spans(), 1);
        same("14: spans() of one for all", only(0, 0, 0).spans(), 1);
        for (int[] at : beginnings()) {
            int before = at[0] == 0 ? 0 : 1;
            int behind = at[0] + width(at[1]) == 256 ? 0 : 1;
            for (int goal : new int[] {0, 99}) {
                RouteTable x = only(at[0], at[1], goal);
                same("14: spans() of one route " + text(at), x.spans(), before + 1 + behind);
                x.drop(at[0], at[1]);
                same("14: spans() after drop" + text(at), x.spans(), 1);
            }
        }
        RouteTable y = only(0, 2, 0);
        y.put(128, 2, 0);
        same("14: spans() with none between and behind", y.spans(), 4);
    }

    private static void promise14LongestSpans() {
        for (int[] at : beginnings()) {
            if (at[1] == 8) {
                continue;
            }
            RouteTable x = new RouteTable();
            putLowerHalf(x, at, 5);
            putUpperHalf(x, at, 5);
            int one = only(at[0], at[1], 5).spans();
            same("14: spans() of two halves with one goal, " + text(at), x.spans(), one);
            putUpperHalf(x, at, 6);
            same("14: spans() of two halves with two goals, " + text(at), x.spans(), one + 1);
        }
        // Routes of different bits side by side with one goal.
        RouteTable y = only(0, 1, 5);
        y.put(128, 2, 5);
        y.put(192, 3, 5);
        y.put(224, 3, 5);
        same("14: spans() of four routes with one goal", y.spans(), 1);
        y.put(127, 8, 6);
        same("14: spans() with one address apart", y.spans(), 3);
        y.put(128, 8, 6);
        same("14: spans() with two addresses apart, side by side", y.spans(), 3);
    }

    private static void promise14LastSpanIsNotJoinedToTheFirst() {
        RouteTable x = only(0, 8, 5);
        x.put(255, 8, 5);
        same("14: spans(), first and last with one goal", x.spans(), 3);
        same("14: spanStart(0)", x.spanStart(0), 0);
        same("14: spanStart(2)", x.spanStart(2), 255);
        RouteTable y = only(64, 2, 5);
        same("14: spans(), first and last to none", y.spans(), 3);
        same("14: spanStart(0), to none", y.spanStart(0), 0);
        same("14: spanStart(2), to none", y.spanStart(2), 128);
    }

    // The first addresses are spans of their own, the rest is sent to none.
    private static void promise14And15From1To256() {
        for (int spans = 1; spans <= 256; spans++) {
            RouteTable x = new RouteTable();
            for (int address = 0; address < spans - 1; address++) {
                x.put(address, 8, address % 2 == 0 ? 0 : 99);
            }
            same("14: spans()", x.spans(), spans);
            same("15: spanStart(0) of " + spans, x.spanStart(0), 0);
            same("15: spanStart of the last but one of " + spans, x.spanStart(spans - 2), spans - 2);
            same("15: spanStart of the last of " + spans, x.spanStart(spans - 1), spans - 1);
            same("15: spanStart behind the last of " + spans, x.spanStart(spans), NONE);
            same("15: spanStart before the first of " + spans, x.spanStart(-1), NONE);
        }
    }

    private static void promise15StartsOfOneRoute() {
        for (int[] at : beginnings()) {
            List<Integer> starts = new ArrayList<>(List.of(0));
            if (at[0] != 0) {
                starts.add(at[0]);
            }
            if (at[0] + width(at[1]) != 256) {
                starts.add(at[0] + width(at[1]));
            }
            RouteTable x = only(at[0], at[1], 0);
            for (int i = 0; i < starts.size(); i++) {
                same("15: spanStart(" + i + ") of " + text(at), x.spanStart(i), starts.get(i));
            }
            same("15: spanStart behind the last of " + text(at), x.spanStart(starts.size()), NONE);
            same("15: spanStart(-1) of " + text(at), x.spanStart(-1), NONE);
        }
    }

    private static void promise15NoneWhenThereIsNone() {
        int[] none = {-1, 256, 257, -2, -255, -256, -257, 511, 512, 65536, -65536, LEAST, LEAST + 1, GREATEST - 1, GREATEST};
        for (int i : none) {
            same("15: empty, spanStart(" + i + ")", new RouteTable().spanStart(i), NONE);
            same("15: some, spanStart(" + i + ")", after(TestHelp::some).spanStart(i), NONE);
            same("15: 256, spanStart(" + i + ")", after(BoundaryCountTest::spans256).spanStart(i), NONE);
        }
        same("15: empty, spanStart(0)", new RouteTable().spanStart(0), 0);
        same("15: empty, spanStart(1)", new RouteTable().spanStart(1), NONE);
        same("15: 256, spanStart(0)", after(BoundaryCountTest::spans256).spanStart(0), 0);
        same("15: 256, spanStart(255)", after(BoundaryCountTest::spans256).spanStart(255), 255);
    }

    private static void spans256(RouteTable x) {
        for (int address = 0; address < 256; address += 2) {
            x.put(address, 8, 0);
        }
    }
}
