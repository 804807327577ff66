import java.util.ArrayList;
import java.util.List;
import java.util.Map;
import java.util.function.Consumer;

// The boundary cases that promises 1 to 5 name, on both sides: a new object,
// put, drop, clear and routes.
public final class BoundaryChangesTest extends TestHelp {
    public static void main(String[] args) {
        promise1NoRoutes();
        promise2InPlaceOfOneForTheSameBeginning();
        promise2FalseWhenBitsIsNot0To8();
        promise2FalseWhenAddressIsNot0To255();
        promise2FalseWhenAddressHasA1AmongItsLastBits();
        promise2FalseWhenGoalIsNot0To99();
        promise2FalseChangingNothing();
        promise2TrueUntilFull();
        promise3TrueWhenThereIsOne();
        promise3TakesOnlyThatRouteAway();
        promise3FalseWhenThereIsNone();
        promise3FalseWhenItIsNoBeginning();
        promise3FalseChangingNothing();
        promise4ClearOfEmptyAndFull();
        promise4PutAfterClear();
        promise5RoutesFrom0To511();
        promise5RoutesDownTo0();
        end("the boundary cases of promises 1 to 5 hold");
    }

    private static void promise1NoRoutes() {
        Map<String, Integer> answers = allAnswers(TestHelp::nothing);
        for (Map.Entry<String, Integer> entry : answers.entrySet()) {
            same("1: " + entry.getKey(), entry.getValue(), dueWithoutRoutes(entry.getKey()));
        }
        for (int[] at : beginnings()) {
            no("1: drop" + text(at), new RouteTable().drop(at[0], at[1]));
        }
    }

    private static int dueWithoutRoutes(String question) {
        if (question.equals("sent(NONE)")) {
            return 256;
        }
        if (question.equals("spans()")) {
            return 1;
        }
        boolean isCount = question.startsWith("routes") || question.startsWith("matching")
            || question.startsWith("sent") || question.startsWith("idle");
        return isCount || question.equals("spanStart(0)") ? 0 : NONE;
    }

    private static void promise2InPlaceOfOneForTheSameBeginning() {
        for (int[] at : beginnings()) {
            int address = at[0];
            int bits = at[1];
            RouteTable x = only(address, bits, 99);
            yes("2: put in place, " + text(at), x.put(address, bits, 0));
            same("2: exact, the new goal in place", x.exact(address, bits), 0);
            same("2: goal, the new goal in place", x.goal(address), 0);
            same("2: sent, the old goal is gone", x.sent(99), 0);
            same("2: routes, no more than before", x.routes(), 1);
            yes("2: put the same again, " + text(at), x.put(address, bits, 0));
            same("2: exact, put again", x.exact(address, bits), 0);
            same("2: routes, put again", x.routes(), 1);
        }
        sameState("2: put in place among some",
            x -> { some(x); x.put(192, 2, 44); },
            x -> { x.put(192, 2, 44); someBut192(x); });
        sameState("2: put in place in a full table but one",
            x -> { fill(x, 510); x.put(192, 2, goalInFull(192, 2)); },
            x -> fill(x, 510));
    }

    // The routes of some, in another order and without the one for 192, 2.
    private static void someBut192(RouteTable x) {
        x.put(255, 8, 99);
        x.put(254, 7, 98);
        x.put(192, 4, 5);
        x.put(0, 1, 6);
        x.put(0, 8, 0);
        x.put(0, 0, 5);
    }

    private static void promise2FalseWhenBitsIsNot0To8() {
        for (int address : new int[] {0, 128, 255}) {
            no("2: put(" + address + ", -1, 1)", new RouteTable().put(address, -1, 1));
            no("2: put(" + address + ", 9, 1)", new RouteTable().put(address, 9, 1));
            for (int bits : NO_BITS) {
                no("2: put(" + address + ", " + bits + ", 1)", new RouteTable().put(address, bits, 1));
            }
        }
        yes("2: put(0, 0, 1)", new RouteTable().put(0, 0, 1));
        yes("2: put(0, 8, 1)", new RouteTable().put(0, 8, 1));
        yes("2: put(255, 8, 1)", new RouteTable().put(255, 8, 1));
    }

    private static void promise2FalseWhenAddressIsNot0To255() {
        for (int bits = 0; bits <= 8; bits++) {
            yes("2: put(0, " + bits + ", 1)", new RouteTable().put(0, bits, 1));
            int last = 256 - width(bits);
            yes("2: put(" + last + ", " + bits + ", 1)", new RouteTable().put(last, bits, 1));
            no("2: put(" + -width(bits) + ", " + bits + ", 1)", new RouteTable().put(-width(bits), bits, 1));
            no("2: put(256, " + bits + ", 1)", new RouteTable().put(256, bits, 1));
            for (int address : NO_ADDRESSES) {
                no("2: put(" + address + ", " + bits + ", 1)", new RouteTable().put(address, bits, 1));
            }
        }
    }

    // For each number of bits: the least bit that counts may be 1, the greatest
    // of the others may not, nor may any other one of them.
    private static void promise2FalseWhenAddressHasA1AmongItsLastBits() {
        for (int bits = 0; bits <= 8; bits++) {
            for (int place = 0; place < 8; place++) {
                boolean due = place >= 8 - bits;
                boolean got = new RouteTable().put(1 << place, bits, 1);
                same("2: put(" + (1 << place) + ", " + bits + ", 1)", got ? 1 : 0, due ? 1 : 0);
            }
            int allOnes = 256 - width(bits);
            yes("2: put(" + allOnes + ", " + bits + ", 1)", new RouteTable().put(allOnes, bits, 1));
        }
    }

    private static void promise2FalseWhenGoalIsNot0To99() {
        for (int[] at : beginnings()) {
            yes("2: put with goal 0 for " + text(at), new RouteTable().put(at[0], at[1], 0));
            yes("2: put with goal 99 for " + text(at), new RouteTable().put(at[0], at[1], 99));
            for (int goal : NO_GOALS) {
                no("2: put with goal " + goal + " for " + text(at), new RouteTable().put(at[0], at[1], goal));
            }
        }
    }

    private static void promise2FalseChangingNothing() {
        List<int[]> refused = new ArrayList<>();
        for (int goal : NO_GOALS) {
            refused.add(new int[] {0, 0, goal});
            refused.add(new int[] {192, 2, goal});
            refused.add(new int[] {255, 8, goal});
            refused.add(new int[] {64, 2, goal});
        }
        for (int[] at : noBeginnings()) {
            refused.add(new int[] {at[0], at[1], 1});
        }
        refused.add(new int[] {256, 9, 100});
        refused.add(new int[] {-1, -1, -1});
        unchangedByPut("empty", TestHelp::nothing, refused);
        unchangedByPut("some", TestHelp::some, refused);
        // One refused put and one question are all that 510 puts leave.
        unchangedByPut("full but one", x -> fill(x, 510), List.of(
            new int[] {0, -1, 1}, new int[] {0, 9, 1}, new int[] {-1, 8, 1}, new int[] {256, 8, 1},
            new int[] {255, 7, 1}, new int[] {255, 8, -1}, new int[] {255, 8, 100}, new int[] {0, 0, 100}));
    }

    private static void unchangedByPut(String name, Consumer<RouteTable> history, List<int[]> refused) {
        Map<String, Integer> due = allAnswers(history);
        for (int[] row : refused) {
            String what = "2: " + name + ", put" + text(row);
            no(what, after(history).put(row[0], row[1], row[2]));
            sameAnswers(what, allAnswers(x -> {
                history.accept(x);
                x.put(row[0], row[1], row[2]);
            }), due);
        }
    }

    // There is room for every beginning, so that no put is refused for want of it.
    private static void promise2TrueUntilFull() {
        RouteTable x = new RouteTable();
        for (int[] at : beginnings()) {
            yes("2: put into a table that fills, " + text(at), x.put(at[0], at[1], 50));
        }
        yes("2: put in place into a full table", x.put(255, 8, 51));
        List<int[]> backward = beginnings();
        RouteTable y = new RouteTable();
        for (int i = backward.size() - 1; i >= 0; i--) {
            yes("2: put backward, " + text(backward.get(i)), y.put(backward.get(i)[0], backward.get(i)[1], 50));
        }
        same("2: routes() when full", y.routes(), 511);
    }

    private static void promise3TrueWhenThereIsOne() {
        for (int[] at : beginnings()) {
            for (int goal : new int[] {0, 1, 99}) {
                RouteTable x = only(at[0], at[1], goal);
                yes("3: drop" + text(at), x.drop(at[0], at[1]));
                same("3: exact after drop" + text(at), x.exact(at[0], at[1]), NONE);
                same("3: routes() after drop" + text(at), x.routes(), 0);
                no("3: again drop" + text(at), x.drop(at[0], at[1]));
            }
            yes("3: full, drop" + text(at), after(y -> fill(y, 511)).drop(at[0], at[1]));
        }
    }

    private static void promise3TakesOnlyThatRouteAway() {
        sameState("3: drop of a route among some",
            x -> { x.put(192, 2, 7); someBut192(x); x.drop(192, 2); },
            BoundaryChangesTest::someBut192);
        sameState("3: drop of a route that stood in place of one",
            x -> { someBut192(x); x.put(192, 2, 7); x.put(192, 2, 8); x.drop(192, 2); },
            BoundaryChangesTest::someBut192);
        sameState("3: drop of the only one",
            x -> { x.put(255, 8, 99); x.drop(255, 8); },
            TestHelp::nothing);
        sameState("3: put after drop",
            x -> { some(x); x.drop(0, 0); x.put(0, 0, 5); },
            TestHelp::some);
        sameState("3: drop of the last of 510", x -> {
            fill(x, 510);
            x.drop(254, 8);
        }, x -> fill(x, 509));
    }

    private static void promise3FalseWhenThereIsNone() {
        for (int[] at : beginnings()) {
            int address = at[0];
            int bits = at[1];
            RouteTable x = only(address, bits, 3);
            for (int other = 0; other <= 8; other++) {
                if (other != bits && address % width(other) == 0) {
                    no("3: drop(" + address + ", " + other + ") with " + text(at), x.drop(address, other));
                }
            }
            no("3: drop of the one before " + text(at), x.drop(address - width(bits), bits));
            no("3: drop of the one behind " + text(at), x.drop(address + width(bits), bits));
            same("3: routes() after drops of none", x.routes(), 1);
            x.clear();
            no("3: after clear, drop" + text(at), x.drop(address, bits));
            x.put(address, bits, 100);
            no("3: after a refused put, drop" + text(at), x.drop(address, bits));
        }
    }

    private static void promise3FalseWhenItIsNoBeginning() {
        for (int[] at : noBeginnings()) {
            no("3: empty, drop" + text(at), new RouteTable().drop(at[0], at[1]));
            no("3: some, drop" + text(at), after(TestHelp::some).drop(at[0], at[1]));
            no("3: full, drop" + text(at), after(x -> fill(x, 511)).drop(at[0], at[1]));
        }
    }

    private static void promise3FalseChangingNothing() {
        List<int[]> none = noBeginnings();
        none.add(new int[] {128, 1});
        none.add(new int[] {192, 3});
        none.add(new int[] {254, 8});
        none.add(new int[] {0, 7});
        Map<String, Integer> due = allAnswers(TestHelp::some);
        for (int[] at : none) {
            sameAnswers("3: drop" + text(at), allAnswers(x -> {
                some(x);
                x.drop(at[0], at[1]);
            }), due);
        }
    }

    private static void promise4ClearOfEmptyAndFull() {
        sameState("4: clear of a new object", x -> x.clear(), TestHelp::nothing);
        for (int[] at : beginnings()) {
            RouteTable x = only(at[0], at[1], 99);
            x.clear();
            same("4: exact" + text(at) + " after clear", x.exact(at[0], at[1]), NONE);
            same("4: routes() after clear of " + text(at), x.routes(), 0);
        }
        sameState("4: clear of some", x -> { some(x); x.clear(); }, TestHelp::nothing);
        sameState("4: clear twice", x -> { some(x); x.clear(); x.clear(); }, TestHelp::nothing);
        // A full table would leave no call behind its clear: one route is missing.
        sameState("4: clear of 510", x -> { fill(x, 510); x.clear(); }, TestHelp::nothing);
        sameState("4: clear of all with 8 bits", x -> {
            for (int address = 0; address < 256; address++) {
                x.put(address, 8, 0);
            }
            x.clear();
        }, TestHelp::nothing);
    }

    private static void promise4PutAfterClear() {
        sameState("4: put after clear", x -> {
            fill(x, 300);
            x.clear();
            some(x);
        }, TestHelp::some);
        sameState("4: put after clear of none", x -> {
            x.clear();
            some(x);
        }, TestHelp::some);
    }

    private static void promise5RoutesFrom0To511() {
        for (int routes = 0; routes <= 511; routes++) {
            int due = routes;
            same("5: routes() of " + due, after(x -> fill(x, due)).routes(), due);
        }
        for (int[] at : beginnings()) {
            same("5: routes() of " + text(at) + " with goal 0", only(at[0], at[1], 0).routes(), 1);
            same("5: routes() of " + text(at) + " with goal 99", only(at[0], at[1], 99).routes(), 1);
        }
    }

    private static void promise5RoutesDownTo0() {
        RouteTable x = new RouteTable();
        x.drop(0, 0);
        same("5: routes() after a drop of none", x.routes(), 0);
        x.put(0, 0, -1);
        same("5: routes() after a refused put", x.routes(), 0);
        fill(x, 100);
        List<int[]> all = beginnings();
        for (int left = 99; left >= 0; left--) {
            x.drop(all.get(left)[0], all.get(left)[1]);
            same("5: routes() with " + left + " left", x.routes(), left);
        }
        x.drop(0, 0);
        same("5: routes() after one drop too many", x.routes(), 0);
        x.put(0, 0, 7);
        same("5: routes() of one again", x.routes(), 1);
    }
}
