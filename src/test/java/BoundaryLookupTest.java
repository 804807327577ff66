// The boundary cases that promises 6 to 10 name, on both sides: exact, goal,
// bits, matching and next.
public final class BoundaryLookupTest extends TestHelp {
    public static void main(String[] args) {
        promise6NoneWhenThereIsNone();
        promise6NoneAfterDropAndClear();
        promise6NoneWhenItIsNoBeginning();
        promise7NoneWhenNoRouteMatches();
        promise7NoneWhenItIsNot0To255();
        promise8NoneWhenNoneMatches();
        promise8NoneWhenItIsNot0To255();
        promise9From0To9();
        promise9ZeroWhenItIsNot0To255();
        promise10FromMayBeAnyInt();
        promise10TheLeastFromTheGivenOneOn();
        promise10DoesNotWrapAround();
        promise10NoneWhenThereIsNone();
        promise10NoneWhenItIsNoGoal();
        end("the boundary cases of promises 6 to 10 hold");
    }

    private static void promise6NoneWhenThereIsNone() {
        for (int[] at : beginnings()) {
            int address = at[0];
            int bits = at[1];
            same("6: exact" + text(at) + " of none", new RouteTable().exact(address, bits), NONE);
            same("6: exact" + text(at) + " with goal 0", only(address, bits, 0).exact(address, bits), 0);
            RouteTable x = only(address, bits, 99);
            same("6: exact" + text(at) + " with goal 99", x.exact(address, bits), 99);
            for (int other = 0; other <= 8; other++) {
                if (other != bits) {
                    int first = address / width(other) * width(other);
                    same("6: exact(" + first + ", " + other + ") with " + text(at), x.exact(first, other), NONE);
                }
            }
            same("6: exact of the one before " + text(at), x.exact(address - width(bits), bits), NONE);
            same("6: exact of the one behind " + text(at), x.exact(address + width(bits), bits), NONE);
        }
    }

    private static void promise6NoneAfterDropAndClear() {
        RouteTable x = after(TestHelp::some);
        same("6: exact(192, 2) before drop", x.exact(192, 2), 7);
        x.drop(192, 2);
        same("6: exact(192, 2) after drop", x.exact(192, 2), NONE);
        same("6: exact(192, 4) after drop", x.exact(192, 4), 5);
        x.put(192, 2, 100);
        same("6: exact(192, 2) after a refused put", x.exact(192, 2), NONE);
        x.clear();
        same("6: exact(192, 4) after clear", x.exact(192, 4), NONE);
    }

    private static void promise6NoneWhenItIsNoBeginning() {
        for (int[] at : noBeginnings()) {
            same("6: empty, exact" + text(at), new RouteTable().exact(at[0], at[1]), NONE);
            same("6: some, exact" + text(at), after(TestHelp::some).exact(at[0], at[1]), NONE);
            same("6: full, exact" + text(at), after(x -> fill(x, 511)).exact(at[0], at[1]), NONE);
        }
    }

    private static void promise7NoneWhenNoRouteMatches() {
        for (int[] at : beginnings()) {
            int first = at[0];
            int last = first + width(at[1]) - 1;
            for (int goal : new int[] {0, 99}) {
                RouteTable x = only(first, at[1], goal);
                same("7: goal before the first of " + text(at), x.goal(first - 1), NONE);
                same("7: goal of the first of " + text(at), x.goal(first), goal);
                same("7: goal of the last of " + text(at), x.goal(last), goal);
                same("7: goal behind the last of " + text(at), x.goal(last + 1), NONE);
                x.drop(first, at[1]);
                same("7: goal of the first after drop" + text(at), x.goal(first), NONE);
                same("7: goal of the last after drop" + text(at), x.goal(last), NONE);
            }
        }
    }

    private static void promise7NoneWhenItIsNot0To255() {
        RouteTable x = only(0, 0, 42);
        same("7: goal(0)", x.goal(0), 42);
        same("7: goal(255)", x.goal(255), 42);
        for (int address : NO_ADDRESSES) {
            same("7: goal(" + address + ")", x.goal(address), NONE);
            same("7: empty, goal(" + address + ")", new RouteTable().goal(address), NONE);
            same("7: full, goal(" + address + ")", after(y -> fill(y, 511)).goal(address), NONE);
        }
    }

    private static void promise8NoneWhenNoneMatches() {
        for (int[] at : beginnings()) {
            int first = at[0];
            int bits = at[1];
            int last = first + width(bits) - 1;
            RouteTable x = only(first, bits, 0);
            same("8: bits before the first of " + text(at), x.bits(first - 1), NONE);
            same("8: bits of the first of " + text(at), x.bits(first), bits);
            same("8: bits of the last of " + text(at), x.bits(last), bits);
            same("8: bits behind the last of " + text(at), x.bits(last + 1), NONE);
            x.drop(first, bits);
            same("8: bits of the first after drop" + text(at), x.bits(first), NONE);
        }
        same("8: bits(7) by a route of no bits", only(0, 0, 1).bits(7), 0);
        same("8: bits(7) by no route", new RouteTable().bits(7), NONE);
    }

    private static void promise8NoneWhenItIsNot0To255() {
        RouteTable x = only(0, 0, 42);
        same("8: bits(0)", x.bits(0), 0);
        same("8: bits(255)", x.bits(255), 0);
        for (int address : NO_ADDRESSES) {
            same("8: bits(" + address + ")", x.bits(address), NONE);
            same("8: empty, bits(" + address + ")", new RouteTable().bits(address), NONE);
            same("8: full, bits(" + address + ")", after(y -> fill(y, 511)).bits(address), NONE);
        }
    }

    // From none to a route of each number of bits, the longest first and last.
    private static void promise9From0To9() {
        for (int address : new int[] {0, 85, 170, 255}) {
            RouteTable x = new RouteTable();
            RouteTable y = new RouteTable();
            same("9: matching(" + address + ") of none", x.matching(address), 0);
            for (int bits = 0; bits <= 8; bits++) {
                x.put(address / width(bits) * width(bits), bits, 0);
                same("9: matching(" + address + ") from no bits on", x.matching(address), bits + 1);
                y.put(address / width(8 - bits) * width(8 - bits), 8 - bits, 99);
                same("9: matching(" + address + ") from 8 bits down", y.matching(address), bits + 1);
            }
            same("9: matching of the neighbour", x.matching(address ^ 1), 8);
            same("9: matching of the other half", x.matching(address ^ 128), 1);
        }
        for (int[] at : beginnings()) {
            int last = at[0] + width(at[1]) - 1;
            RouteTable x = only(at[0], at[1], 0);
            same("9: matching before the first of " + text(at), x.matching(at[0] - 1), 0);
            same("9: matching of the first of " + text(at), x.matching(at[0]), 1);
            same("9: matching of the last of " + text(at), x.matching(last), 1);
            same("9: matching behind the last of " + text(at), x.matching(last + 1), 0);
        }
    }

    private static void promise9ZeroWhenItIsNot0To255() {
        RouteTable x = only(0, 0, 42);
        same("9: matching(0)", x.matching(0), 1);
        same("9: matching(255)", x.matching(255), 1);
        for (int address : NO_ADDRESSES) {
            same("9: matching(" + address + ")", x.matching(address), 0);
            same("9: empty, matching(" + address + ")", new RouteTable().matching(address), 0);
            same("9: full, matching(" + address + ")", after(y -> fill(y, 511)).matching(address), 0);
        }
    }

    private static void promise10FromMayBeAnyInt() {
        for (int[] at : new int[][] {{0, 0}, {0, 8}, {128, 1}, {255, 8}}) {
            RouteTable x = only(at[0], at[1], 7);
            for (int from : NO_ADDRESSES) {
                same("10: next(" + from + ", 7) with " + text(at), x.next(from, 7), from < 0 ? at[0] : NONE);
                same("10: next(" + from + ", 8) with " + text(at), x.next(from, 8), NONE);
            }
        }
    }

    private static void promise10TheLeastFromTheGivenOneOn() {
        for (int[] at : beginnings()) {
            int first = at[0];
            int last = first + width(at[1]) - 1;
            for (int goal : new int[] {0, 99}) {
                RouteTable x = only(first, at[1], goal);
                same("10: next from the least int on, " + text(at), x.next(LEAST, goal), first);
                same("10: next from -1 on, " + text(at), x.next(-1, goal), first);
                same("10: next from 0 on, " + text(at), x.next(0, goal), first);
                same("10: next from before the first on, " + text(at), x.next(first - 1, goal), first);
                same("10: next from the first on, " + text(at), x.next(first, goal), first);
                same("10: next from the last on, " + text(at), x.next(last, goal), last);
                same("10: next from behind the last on, " + text(at), x.next(last + 1, goal), NONE);
                same("10: next from the greatest int on, " + text(at), x.next(GREATEST, goal), NONE);
            }
        }
        RouteTable y = only(0, 0, 7);
        for (int from = 0; from < 256; from++) {
            same("10: next(" + from + ", 7) when all are sent there", y.next(from, 7), from);
        }
    }

    private static void promise10DoesNotWrapAround() {
        RouteTable x = only(0, 8, 7);
        x.put(128, 8, 7);
        same("10: next(0, 7)", x.next(0, 7), 0);
        same("10: next(1, 7)", x.next(1, 7), 128);
        same("10: next(128, 7)", x.next(128, 7), 128);
        same("10: next(129, 7)", x.next(129, 7), NONE);
        same("10: next(255, 7)", x.next(255, 7), NONE);
        same("10: next(256, 7)", x.next(256, 7), NONE);
        same("10: next(GREATEST, 7)", x.next(GREATEST, 7), NONE);
    }

    private static void promise10NoneWhenThereIsNone() {
        for (int goal = 0; goal < 100; goal++) {
            same("10: empty, next(0, " + goal + ")", new RouteTable().next(0, goal), NONE);
            int other = (goal + 1) % 100;
            same("10: next(0, " + goal + ") of another goal", only(0, 0, other).next(0, goal), NONE);
            same("10: next(0, " + goal + ")", only(0, 0, goal).next(0, goal), 0);
        }
        // A route that sends nothing, for longer ones cover it.
        RouteTable x = only(128, 1, 7);
        x.put(128, 2, 8);
        same("10: next(0, 7), half covered", x.next(0, 7), 192);
        x.put(192, 2, 8);
        same("10: next(0, 7), all covered", x.next(0, 7), NONE);
        x.drop(192, 2);
        same("10: next(0, 7), half covered again", x.next(0, 7), 192);
    }

    // An address that no route matches is sent to no goal, not to NONE.
    private static void promise10NoneWhenItIsNoGoal() {
        for (int goal : NO_GOALS) {
            for (int from : new int[] {LEAST, -1, 0, 128, 255, 256, GREATEST}) {
                String call = "next(" + from + ", " + goal + ")";
                same("10: empty, " + call, new RouteTable().next(from, goal), NONE);
                same("10: half matched, " + call, only(128, 1, 99).next(from, goal), NONE);
                same("10: all matched, " + call, only(0, 0, 0).next(from, goal), NONE);
            }
        }
    }
}
