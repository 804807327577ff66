import java.util.Map;

// The boundary cases that "What it is" and "Terms" name, on both sides.
public final class BoundaryTermsTest extends TestHelp {
    public static void main(String[] args) {
        noneIsTheConstant();
        addressesAre0To255();
        bitsAre0To8();
        goalsAre0To99();
        otherBitsAre0();
        atMostOneRouteForABeginning();
        mostBitsWin();
        aFullTableAnswersInItsLastCall();
        anObjectIsGoodFor512Calls();
        end("the boundary cases of the terms hold");
    }

    private static void noneIsTheConstant() {
        same("NONE", RouteTable.NONE, NONE);
    }

    private static void addressesAre0To255() {
        for (int address = 0; address < 256; address++) {
            yes("put(" + address + ", 8, 1)", new RouteTable().put(address, 8, 1));
            same("goal(" + address + ")", only(0, 0, 1).goal(address), 1);
        }
        for (int address : NO_ADDRESSES) {
            no("put(" + address + ", 8, 1)", new RouteTable().put(address, 8, 1));
            same("goal(" + address + ")", only(0, 0, 1).goal(address), NONE);
        }
        same("sent(1) when all are sent there", only(0, 0, 1).sent(1), 256);
    }

    private static void bitsAre0To8() {
        for (int bits = 0; bits <= 8; bits++) {
            yes("put(0, " + bits + ", 1)", new RouteTable().put(0, bits, 1));
            same("bits(0)", only(0, bits, 1).bits(0), bits);
        }
        for (int bits : NO_BITS) {
            no("put(0, " + bits + ", 1)", new RouteTable().put(0, bits, 1));
        }
    }

    private static void goalsAre0To99() {
        for (int goal = 0; goal < 100; goal++) {
            yes("put(0, 0, " + goal + ")", new RouteTable().put(0, 0, goal));
            same("goal(0)", only(0, 0, goal).goal(0), goal);
        }
        for (int goal : NO_GOALS) {
            no("put(0, 0, " + goal + ")", new RouteTable().put(0, 0, goal));
        }
    }

    private static void otherBitsAre0() {
        for (int bits = 0; bits <= 8; bits++) {
            for (int address = 0; address < 256; address++) {
                boolean due = address % width(bits) == 0;
                boolean got = new RouteTable().put(address, bits, 1);
                same("put(" + address + ", " + bits + ", 1)", got ? 1 : 0, due ? 1 : 0);
            }
        }
    }

    private static void atMostOneRouteForABeginning() {
        for (int[] at : beginnings()) {
            RouteTable x = only(at[0], at[1], 1);
            yes("put a second time for " + text(at), x.put(at[0], at[1], 2));
            same("routes() after two for " + text(at), x.routes(), 1);
            same("matching(first) after two for " + text(at), x.matching(at[0]), 1);
            yes("drop of the one for " + text(at), x.drop(at[0], at[1]));
            same("routes() after its drop", x.routes(), 0);
        }
        RouteTable y = new RouteTable();
        for (int bits = 0; bits <= 8; bits++) {
            y.put(0, bits, bits);
        }
        same("routes() for address 0 with each number of bits", y.routes(), 9);
    }

    private static void mostBitsWin() {
        for (int inside : new int[] {0, 85, 170, 255}) {
            for (int fewer = 0; fewer < 8; fewer++) {
                for (int more = fewer + 1; more <= 8; more++) {
                    mostBitsWin(inside, fewer, more);
                    mostBitsWin(inside, more, fewer);
                }
            }
        }
    }

    // The goal of a route here is 10 + its bits; the order of the puts is free.
    private static void mostBitsWin(int inside, int firstPut, int secondPut) {
        RouteTable x = new RouteTable();
        x.put(inside / width(firstPut) * width(firstPut), firstPut, 10 + firstPut);
        x.put(inside / width(secondPut) * width(secondPut), secondPut, 10 + secondPut);
        int fewer = Math.min(firstPut, secondPut);
        int more = Math.max(firstPut, secondPut);
        for (int address = 0; address < 256; address++) {
            int due = NONE;
            if (address / width(fewer) == inside / width(fewer)) {
                due = 10 + fewer;
            }
            if (address / width(more) == inside / width(more)) {
                due = 10 + more;
            }
            String what = "(" + address + ") with routes of " + firstPut + " and " + secondPut + " bits";
            same("goal" + what, x.goal(address), due);
            if (address % 2 == inside % 2) {
                same("bits" + what, x.bits(address), due == NONE ? NONE : due - 10);
            }
        }
    }

    // 511 puts leave one call, which may be any question.
    private static void aFullTableAnswersInItsLastCall() {
        Map<String, Integer> got = allAnswers(x -> fill(x, 511));
        int spans = 0;
        int[] sent = new int[100];
        for (int address = 0; address < 256; address++) {
            int goal = goalInFull(address, 8);
            sent[goal]++;
            if (address == 0 || goal != goalInFull(address - 1, 8)) {
                same("full: spanStart(" + spans + ")", got.get("spanStart(" + spans + ")"), address);
                spans++;
            }
            same("full: goal(" + address + ")", got.get("goal(" + address + ")"), goal);
            same("full: bits(" + address + ")", got.get("bits(" + address + ")"), 8);
            same("full: matching(" + address + ")", got.get("matching(" + address + ")"), 9);
        }
        same("full: routes()", got.get("routes()"), 511);
        same("full: spans()", got.get("spans()"), spans);
        same("full: sent(NONE)", got.get("sent(NONE)"), 0);
        for (int goal = 0; goal < 100; goal++) {
            same("full: sent(" + goal + ")", got.get("sent(" + goal + ")"), sent[goal]);
        }
        for (int[] at : beginnings()) {
            same("full: exact" + text(at), got.get("exact" + text(at)), goalInFull(at[0], at[1]));
            same("full: load" + text(at), got.get("load" + text(at)), at[1] == 8 ? 1 : 0);
            boolean idle = at[1] < 8 || goalInFull(at[0], 8) == goalInFull(at[0] / 2 * 2, 7);
            same("full: idle" + text(at), got.get("idle" + text(at)), idle ? 1 : 0);
        }
    }

    private static void anObjectIsGoodFor512Calls() {
        sameState("after 511 calls of put and drop", x -> putAndDrop(x, 255), x -> x.put(255, 8, 99));
        sameState("after 511 calls of clear", x -> clearOften(x, 511), TestHelp::nothing);
        sameState("after 511 calls of refused put", x -> putRefused(x, 511), TestHelp::nothing);
        sameState("after 511 calls of put in place", x -> putInPlace(x, 511), x -> x.put(0, 0, 10));
        sameState("after 511 calls with questions", x -> askOften(x, 504), TestHelp::some);
    }

    private static void putAndDrop(RouteTable x, int rounds) {
        for (int round = 0; round < rounds; round++) {
            x.put(round / 2 * 2, 7, round % 100);
            x.drop(round / 2 * 2, 7);
        }
        x.put(255, 8, 99);
    }

    private static void clearOften(RouteTable x, int calls) {
        x.put(0, 0, 1);
        for (int call = 1; call < calls; call++) {
            x.clear();
        }
    }

    private static void putRefused(RouteTable x, int calls) {
        for (int call = 0; call < calls; call++) {
            x.put(call % 256, 8, 100 + call);
        }
    }

    private static void putInPlace(RouteTable x, int calls) {
        for (int call = 0; call < calls; call++) {
            x.put(0, 0, call % 100);
        }
    }

    // Behind the seven puts, questions alone.
    private static void askOften(RouteTable x, int calls) {
        some(x);
        for (int call = 0; call < calls; call++) {
            switch (call % 11) {
                case 0: x.routes(); break;
                case 1: x.exact(call % 256, call % 9); break;
                case 2: x.goal(call - 100); break;
                case 3: x.bits(call - 100); break;
                case 4: x.matching(call - 100); break;
                case 5: x.next(call - 100, call % 100); break;
                case 6: x.load(call % 4 * 64, 2); break;
                case 7: x.sent(call % 102 - 2); break;
                case 8: x.idle(call % 4 * 64, 2); break;
                case 9: x.spans(); break;
                default: x.spanStart(call % 20 - 5); break;
            }
        }
    }
}
