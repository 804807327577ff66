// For each promise of the document, a test that fails if the promise is broken.
public final class PromiseTest extends TestHelp {
    public static void main(String[] args) {
        constant();
        promise1NewObject();
        promise2Put();
        promise2PutRefusesWrongInputs();
        promise2PutTakesEveryBeginning();
        promise3Drop();
        promise3DropOfWrongInputs();
        promise4Clear();
        promise5Routes();
        promise6Exact();
        promise7Goal();
        promise8Bits();
        promise9Matching();
        promise10Next();
        promise10NextIsNotForUnmatchedAddresses();
        promise11Load();
        promise12Sent();
        promise13IdleBehindShorterRoute();
        promise13IdleWhenCovered();
        promise13IdleWhenPartlyCovered();
        promise13IdleOfWrongInputs();
        promise14Spans();
        promise15SpanStart();
        objectsAreApart();
        questionsChangeNothing();
        end("all promises hold");
    }

    private static void constant() {
        same("NONE", RouteTable.NONE, -1);
    }

    private static void promise1NewObject() {
        RouteTable x = new RouteTable();
        same("1: routes()", x.routes(), 0);
        same("1: exact(0, 0)", x.exact(0, 0), NONE);
        same("1: goal(0)", x.goal(0), NONE);
        same("1: bits(255)", x.bits(255), NONE);
        same("1: matching(7)", x.matching(7), 0);
        same("1: next(0, 0)", x.next(0, 0), NONE);
        same("1: load(0, 0)", x.load(0, 0), NONE);
        same("1: sent(NONE)", x.sent(NONE), 256);
        same("1: sent(0)", x.sent(0), 0);
        no("1: idle(0, 0)", x.idle(0, 0));
        no("1: drop(0, 0)", x.drop(0, 0));
        same("1: spans()", x.spans(), 1);
        same("1: spanStart(0)", x.spanStart(0), 0);
        RouteTable y = new RouteTable();
        int found = 0;
        for (int address = 0; address < 256; address++) {
            found += y.exact(address, 8) == NONE ? 0 : 1;
        }
        same("1: whole addresses with a route", found, 0);
    }

    private static void promise2Put() {
        RouteTable x = new RouteTable();
        yes("2: put(0, 0, 0)", x.put(0, 0, 0));
        yes("2: put(255, 8, 99)", x.put(255, 8, 99));
        yes("2: put(128, 1, 50)", x.put(128, 1, 50));
        yes("2: put(254, 7, 3)", x.put(254, 7, 3));
        same("2: exact(0, 0)", x.exact(0, 0), 0);
        same("2: exact(255, 8)", x.exact(255, 8), 99);
        same("2: exact(128, 1)", x.exact(128, 1), 50);
        same("2: exact(254, 7)", x.exact(254, 7), 3);
        same("2: routes()", x.routes(), 4);
        yes("2: put(128, 1, 51) in place", x.put(128, 1, 51));
        same("2: exact(128, 1) after", x.exact(128, 1), 51);
        same("2: routes() after", x.routes(), 4);
        yes("2: put(128, 1, 51) again", x.put(128, 1, 51));
        same("2: routes() again", x.routes(), 4);
    }

    private static void promise2PutRefusesWrongInputs() {
        RouteTable x = new RouteTable();
        x.put(0, 0, 5);
        x.put(0, 8, 6);
        x.put(192, 2, 7);
        int[][] refused = {
            {0, -1, 1}, {0, 9, 1}, {0, 32, 1}, {0, -24, 1}, {0, 40, 1}, {0, LEAST, 1}, {0, GREATEST, 1},
            {-1, 8, 1}, {256, 8, 1}, {-256, 8, 1}, {256, 0, 1}, {512, 1, 1}, {LEAST, 0, 1}, {LEAST, 8, 1},
            {GREATEST, 8, 1}, {-128, 1, 1},
            {1, 0, 1}, {128, 0, 1}, {255, 0, 1}, {64, 1, 1}, {1, 7, 1}, {255, 7, 1}, {2, 6, 1}, {193, 2, 1},
            {224, 2, 1}, {8, 4, 1}, {255, 4, 1},
            {0, 0, -1}, {0, 0, 100}, {0, 8, LEAST}, {192, 2, GREATEST}, {192, 2, NONE},
        };
        for (int[] row : refused) {
            no("2: put(" + row[0] + ", " + row[1] + ", " + row[2] + ")", x.put(row[0], row[1], row[2]));
        }
        same("2: routes() after refusals", x.routes(), 3);
        same("2: exact(0, 0) after refusals", x.exact(0, 0), 5);
        same("2: exact(0, 8) after refusals", x.exact(0, 8), 6);
        same("2: exact(192, 2) after refusals", x.exact(192, 2), 7);
        same("2: sent(1) after refusals", x.sent(1), 0);
    }

    // Two objects, for one object's 512 calls do not reach for both.
    private static void promise2PutTakesEveryBeginning() {
        RouteTable x = new RouteTable();
        RouteTable y = new RouteTable();
        int refused = 0;
        for (int bits = 0; bits <= 8; bits++) {
            for (int address = 0; address < 256; address += 256 >> bits) {
                refused += x.put(address, bits, (address + bits) % 100) ? 0 : 1;
            }
        }
        same("2: beginnings refused", refused, 0);
        same("2: routes() of all beginnings", x.routes(), 511);
        int taken = 0;
        for (int bits = 0; bits < 8; bits++) {
            int step = 256 >> bits;
            for (int address = 0; address < 256; address += step) {
                taken += y.put(address + step / 2, bits, 1) ? 1 : 0;
            }
        }
        same("2: no beginnings taken", taken, 0);
        same("2: routes() of no beginnings", y.routes(), 0);
    }

    private static void promise3Drop() {
        RouteTable x = new RouteTable();
        x.put(64, 2, 4);
        x.put(64, 3, 5);
        x.put(64, 8, 0);
        yes("3: drop(64, 3)", x.drop(64, 3));
        same("3: exact(64, 3)", x.exact(64, 3), NONE);
        same("3: exact(64, 2)", x.exact(64, 2), 4);
        same("3: exact(64, 8)", x.exact(64, 8), 0);
        same("3: goal(70)", x.goal(70), 4);
        same("3: routes()", x.routes(), 2);
        no("3: drop(64, 3) again", x.drop(64, 3));
        same("3: routes() again", x.routes(), 2);
        yes("3: drop(64, 8) with goal 0", x.drop(64, 8));
        yes("3: put(64, 3, 9) after drop", x.put(64, 3, 9));
        same("3: exact(64, 3) put again", x.exact(64, 3), 9);
    }

    private static void promise3DropOfWrongInputs() {
        RouteTable x = new RouteTable();
        x.put(0, 0, 1);
        x.put(0, 1, 1);
        x.put(128, 1, 2);
        x.put(255, 8, 3);
        x.put(0, 8, 4);
        int[][] none = {
            {1, 0}, {255, 0}, {129, 1}, {192, 1}, {0, 2}, {0, 7}, {254, 8}, {255, 7}, {0, -1}, {0, 9}, {0, 32},
            {0, 40}, {128, 33}, {-1, 8}, {256, 8}, {-256, 0}, {256, 0}, {-128, 1}, {LEAST, LEAST},
            {GREATEST, GREATEST}, {0, LEAST}, {0, GREATEST}, {LEAST, 0}, {GREATEST, 8},
        };
        for (int[] row : none) {
            no("3: drop(" + row[0] + ", " + row[1] + ")", x.drop(row[0], row[1]));
        }
        same("3: routes() after wrong inputs", x.routes(), 5);
    }

    private static void promise4Clear() {
        RouteTable x = new RouteTable();
        x.clear();
        same("4: routes() of a new object cleared", x.routes(), 0);
        x.put(0, 0, 1);
        x.put(0, 8, 2);
        x.put(255, 8, 3);
        x.put(128, 1, 4);
        x.clear();
        same("4: routes()", x.routes(), 0);
        same("4: exact(0, 0)", x.exact(0, 0), NONE);
        same("4: exact(0, 8)", x.exact(0, 8), NONE);
        same("4: exact(255, 8)", x.exact(255, 8), NONE);
        same("4: exact(128, 1)", x.exact(128, 1), NONE);
        same("4: sent(NONE)", x.sent(NONE), 256);
        yes("4: put after clear", x.put(0, 0, 9));
        same("4: routes() after put", x.routes(), 1);
        same("4: goal(200) after put", x.goal(200), 9);
    }

    private static void promise5Routes() {
        RouteTable x = new RouteTable();
        same("5: routes() of none", x.routes(), 0);
        x.put(0, 0, 0);
        same("5: routes() of one with goal 0", x.routes(), 1);
        x.put(0, 1, 0);
        x.put(0, 8, 0);
        x.put(255, 8, 99);
        same("5: routes() of four", x.routes(), 4);
        x.put(0, 8, 1);
        same("5: routes() after one in place", x.routes(), 4);
        x.drop(0, 0);
        same("5: routes() after drop", x.routes(), 3);
        x.drop(0, 0);
        same("5: routes() after drop of none", x.routes(), 3);
        x.put(0, 0, 100);
        same("5: routes() after a refused put", x.routes(), 3);
    }

    private static void promise6Exact() {
        RouteTable x = new RouteTable();
        x.put(0, 0, 0);
        x.put(160, 3, 33);
        x.put(160, 8, 88);
        same("6: exact(0, 0)", x.exact(0, 0), 0);
        same("6: exact(160, 3)", x.exact(160, 3), 33);
        same("6: exact(160, 8)", x.exact(160, 8), 88);
        same("6: exact(160, 4)", x.exact(160, 4), NONE);
        same("6: exact(128, 2)", x.exact(128, 2), NONE);
        same("6: exact(0, 3)", x.exact(0, 3), NONE);
        same("6: exact(161, 3) has a 1 behind", x.exact(161, 3), NONE);
        same("6: exact(176, 3) has a 1 behind", x.exact(176, 3), NONE);
        same("6: exact(1, 0) has a 1 behind", x.exact(1, 0), NONE);
        same("6: exact(160, 9)", x.exact(160, 9), NONE);
        same("6: exact(160, -1)", x.exact(160, -1), NONE);
        same("6: exact(160, 35)", x.exact(160, 35), NONE);
        same("6: exact(0, 32)", x.exact(0, 32), NONE);
        same("6: exact(256, 0)", x.exact(256, 0), NONE);
        same("6: exact(-256, 0)", x.exact(-256, 0), NONE);
        same("6: exact(416, 8)", x.exact(416, 8), NONE);
        same("6: exact(-96, 3)", x.exact(-96, 3), NONE);
        same("6: exact(LEAST, LEAST)", x.exact(LEAST, LEAST), NONE);
        same("6: exact(GREATEST, GREATEST)", x.exact(GREATEST, GREATEST), NONE);
        same("6: exact(0, GREATEST)", x.exact(0, GREATEST), NONE);
        same("6: exact(LEAST, 0)", x.exact(LEAST, 0), NONE);
    }

    private static RouteTable nested() {
        RouteTable x = new RouteTable();
        x.put(64, 8, 0);
        x.put(64, 2, 20);
        x.put(96, 3, 30);
        x.put(0, 1, 10);
        x.put(255, 8, 99);
        return x;
    }

    private static void promise7Goal() {
        RouteTable x = nested();
        same("7: goal(0)", x.goal(0), 10);
        same("7: goal(63)", x.goal(63), 10);
        same("7: goal(64)", x.goal(64), 0);
        same("7: goal(65)", x.goal(65), 20);
        same("7: goal(95)", x.goal(95), 20);
        same("7: goal(96)", x.goal(96), 30);
        same("7: goal(127)", x.goal(127), 30);
        same("7: goal(128)", x.goal(128), NONE);
        same("7: goal(254)", x.goal(254), NONE);
        same("7: goal(255)", x.goal(255), 99);
        x.put(0, 0, 42);
        same("7: goal(128) by no bits", x.goal(128), 42);
        same("7: goal(0) still by the longest", x.goal(0), 10);
        same("7: goal(-1)", x.goal(-1), NONE);
        same("7: goal(256)", x.goal(256), NONE);
        same("7: goal(-256)", x.goal(-256), NONE);
        same("7: goal(LEAST)", x.goal(LEAST), NONE);
        same("7: goal(GREATEST)", x.goal(GREATEST), NONE);
    }

    private static void promise8Bits() {
        RouteTable x = nested();
        same("8: bits(0)", x.bits(0), 1);
        same("8: bits(64)", x.bits(64), 8);
        same("8: bits(65)", x.bits(65), 2);
        same("8: bits(96)", x.bits(96), 3);
        same("8: bits(128)", x.bits(128), NONE);
        same("8: bits(255)", x.bits(255), 8);
        x.put(0, 0, 42);
        same("8: bits(128) by no bits", x.bits(128), 0);
        same("8: bits(-1)", x.bits(-1), NONE);
        same("8: bits(256)", x.bits(256), NONE);
        same("8: bits(LEAST)", x.bits(LEAST), NONE);
        same("8: bits(GREATEST)", x.bits(GREATEST), NONE);
    }

    private static void promise9Matching() {
        RouteTable x = nested();
        same("9: matching(0)", x.matching(0), 1);
        same("9: matching(64)", x.matching(64), 3);
        same("9: matching(65)", x.matching(65), 2);
        same("9: matching(127)", x.matching(127), 3);
        same("9: matching(128)", x.matching(128), 0);
        same("9: matching(255)", x.matching(255), 1);
        x.put(0, 0, 42);
        same("9: matching(128) by no bits", x.matching(128), 1);
        same("9: matching(255) with no bits", x.matching(255), 2);
        same("9: matching(-1)", x.matching(-1), 0);
        same("9: matching(256)", x.matching(256), 0);
        same("9: matching(LEAST)", x.matching(LEAST), 0);
        same("9: matching(GREATEST)", x.matching(GREATEST), 0);
        RouteTable y = new RouteTable();
        for (int bits = 0; bits <= 8; bits++) {
            y.put(255 & ~(255 >> bits), bits, 7);
        }
        same("9: matching(255) by all nine", y.matching(255), 9);
        same("9: matching(254)", y.matching(254), 8);
        same("9: matching(127)", y.matching(127), 1);
    }

    private static void promise10Next() {
        RouteTable x = nested();
        x.put(192, 4, 10);
        same("10: next(0, 10)", x.next(0, 10), 0);
        same("10: next(63, 10)", x.next(63, 10), 63);
        same("10: next(64, 10)", x.next(64, 10), 192);
        same("10: next(207, 10)", x.next(207, 10), 207);
        same("10: next(208, 10)", x.next(208, 10), NONE);
        same("10: next(0, 0)", x.next(0, 0), 64);
        same("10: next(65, 0)", x.next(65, 0), NONE);
        same("10: next(0, 99)", x.next(0, 99), 255);
        same("10: next(255, 99)", x.next(255, 99), 255);
        same("10: next(256, 99)", x.next(256, 99), NONE);
        same("10: next(GREATEST, 99)", x.next(GREATEST, 99), NONE);
        same("10: next(-1, 10)", x.next(-1, 10), 0);
        same("10: next(-1, 30)", x.next(-1, 30), 96);
        same("10: next(LEAST, 10)", x.next(LEAST, 10), 0);
        same("10: next(LEAST, 99)", x.next(LEAST, 99), 255);
        same("10: next(0, 11)", x.next(0, 11), NONE);
        same("10: next(0, 100)", x.next(0, 100), NONE);
        same("10: next(0, LEAST)", x.next(0, LEAST), NONE);
        same("10: next(0, GREATEST)", x.next(0, GREATEST), NONE);
    }

    private static void promise10NextIsNotForUnmatchedAddresses() {
        RouteTable x = nested();
        same("10: next(0, NONE)", x.next(0, NONE), NONE);
        same("10: next(130, NONE)", x.next(130, NONE), NONE);
        same("10: next(-5, NONE)", x.next(-5, NONE), NONE);
        same("10: next(LEAST, NONE)", x.next(LEAST, NONE), NONE);
    }

    private static void promise11Load() {
        RouteTable x = nested();
        same("11: load(0, 1)", x.load(0, 1), 64);
        same("11: load(64, 2)", x.load(64, 2), 31);
        same("11: load(64, 8)", x.load(64, 8), 1);
        same("11: load(96, 3)", x.load(96, 3), 32);
        same("11: load(255, 8)", x.load(255, 8), 1);
        same("11: load(0, 0) of none", x.load(0, 0), NONE);
        x.put(0, 0, 10);
        same("11: load(0, 0)", x.load(0, 0), 127);
        x.put(64, 3, 20);
        same("11: load(64, 2) of a covered route", x.load(64, 2), 0);
        same("11: load(64, 3) with the same goal", x.load(64, 3), 31);
        int[][] none = {
            {65, 2}, {65, 8}, {1, 0}, {192, 1}, {128, 1}, {0, -1}, {0, 9}, {0, 32}, {0, 33}, {-1, 8}, {256, 8},
            {256, 0}, {-256, 0}, {LEAST, LEAST}, {GREATEST, GREATEST}, {LEAST, 0}, {0, LEAST}, {GREATEST, 8},
        };
        for (int[] row : none) {
            same("11: load(" + row[0] + ", " + row[1] + ")", x.load(row[0], row[1]), NONE);
        }
        RouteTable y = new RouteTable();
        y.put(0, 0, 0);
        same("11: load(0, 0) of all", y.load(0, 0), 256);
    }

    private static void promise12Sent() {
        RouteTable x = nested();
        same("12: sent(10)", x.sent(10), 64);
        same("12: sent(20)", x.sent(20), 31);
        same("12: sent(30)", x.sent(30), 32);
        same("12: sent(0)", x.sent(0), 1);
        same("12: sent(99)", x.sent(99), 1);
        same("12: sent(NONE)", x.sent(NONE), 127);
        same("12: sent(11)", x.sent(11), 0);
        same("12: sent(100)", x.sent(100), 0);
        same("12: sent(-2)", x.sent(-2), 0);
        same("12: sent(LEAST)", x.sent(LEAST), 0);
        same("12: sent(GREATEST)", x.sent(GREATEST), 0);
        x.put(0, 0, 10);
        same("12: sent(10) by two routes", x.sent(10), 191);
        same("12: sent(NONE) when all are matched", x.sent(NONE), 0);
    }

    private static void promise13IdleBehindShorterRoute() {
        RouteTable x = new RouteTable();
        x.put(0, 0, 1);
        x.put(128, 1, 2);
        x.put(128, 4, 2);
        yes("13: idle(128, 4), same goal behind it", x.idle(128, 4));
        no("13: idle(128, 1), other goal behind it", x.idle(128, 1));
        no("13: idle(0, 0), none behind it", x.idle(0, 0));
        x.put(128, 3, 1);
        no("13: idle(128, 4), the nearest behind it counts", x.idle(128, 4));
        x.put(128, 1, 1);
        yes("13: idle(128, 3)", x.idle(128, 3));
        x.drop(0, 0);
        no("13: idle(128, 1), sent to none without it", x.idle(128, 1));
        same("13: exact(128, 1) after the question", x.exact(128, 1), 1);
        RouteTable y = new RouteTable();
        y.put(7, 8, 0);
        no("13: idle(7, 8), goal 0 is not none", y.idle(7, 8));
    }

    private static void promise13IdleWhenCovered() {
        RouteTable x = new RouteTable();
        x.put(64, 2, 5);
        x.put(64, 3, 6);
        x.put(96, 3, 7);
        yes("13: idle(64, 2), covered by two", x.idle(64, 2));
        x.drop(96, 3);
        no("13: idle(64, 2), half covered", x.idle(64, 2));
        x.put(0, 0, 5);
        yes("13: idle(64, 2), half covered, same goal behind", x.idle(64, 2));
        no("13: idle(64, 3)", x.idle(64, 3));
    }

    private static void promise13IdleWhenPartlyCovered() {
        RouteTable x = new RouteTable();
        x.put(248, 5, 1);
        for (int address = 248; address < 255; address++) {
            x.put(address, 8, 2);
        }
        no("13: idle(248, 5), only its last address is left", x.idle(248, 5));
        x.put(255, 8, 2);
        yes("13: idle(248, 5), no address is left", x.idle(248, 5));
        x.drop(248, 8);
        no("13: idle(248, 5), only its first address is left", x.idle(248, 5));
    }

    private static void promise13IdleOfWrongInputs() {
        RouteTable x = new RouteTable();
        x.put(0, 0, 1);
        x.put(0, 1, 1);
        x.put(0, 8, 1);
        x.put(255, 8, 1);
        yes("13: idle(0, 1)", x.idle(0, 1));
        yes("13: idle(255, 8)", x.idle(255, 8));
        int[][] none = {
            {0, 2}, {128, 1}, {64, 1}, {1, 1}, {255, 7}, {254, 8}, {0, -1}, {0, 9}, {0, 33}, {0, 40}, {-1, 8},
            {256, 8}, {511, 8}, {256, 1}, {-256, 1}, {LEAST, LEAST}, {GREATEST, GREATEST}, {LEAST, 1}, {0, LEAST},
            {0, GREATEST},
        };
        for (int[] row : none) {
            no("13: idle(" + row[0] + ", " + row[1] + ")", x.idle(row[0], row[1]));
        }
    }

    private static void promise14Spans() {
        RouteTable x = new RouteTable();
        same("14: spans() of none", x.spans(), 1);
        x.put(0, 0, 3);
        same("14: spans() of one route", x.spans(), 1);
        x.put(64, 2, 3);
        same("14: spans() with the same goal inside", x.spans(), 1);
        x.put(128, 1, 4);
        same("14: spans() of halves", x.spans(), 2);
        x.put(64, 2, 4);
        same("14: spans() of two routes side by side with one goal", x.spans(), 2);
        x.put(0, 8, 4);
        same("14: spans() with the first address apart", x.spans(), 3);
        x.put(255, 8, 3);
        same("14: spans() with the last address apart", x.spans(), 4);
        x.drop(0, 0);
        same("14: spans() with a span sent to none", x.spans(), 4);
        RouteTable y = new RouteTable();
        for (int address = 0; address < 256; address += 2) {
            y.put(address, 8, 0);
        }
        same("14: spans() of 256", y.spans(), 256);
        same("14: spanStart(255) of 256", y.spanStart(255), 255);
        same("14: spanStart(256) of 256", y.spanStart(256), NONE);
    }

    private static void promise15SpanStart() {
        RouteTable x = nested();
        int[] starts = {0, 64, 65, 96, 128, 255};
        same("15: spans()", x.spans(), starts.length);
        for (int i = 0; i < starts.length; i++) {
            same("15: spanStart(" + i + ")", x.spanStart(i), starts[i]);
        }
        same("15: spanStart(6)", x.spanStart(6), NONE);
        same("15: spanStart(-1)", x.spanStart(-1), NONE);
        same("15: spanStart(256)", x.spanStart(256), NONE);
        same("15: spanStart(LEAST)", x.spanStart(LEAST), NONE);
        same("15: spanStart(GREATEST)", x.spanStart(GREATEST), NONE);
        RouteTable y = new RouteTable();
        same("15: spanStart(0) of none", y.spanStart(0), 0);
        same("15: spanStart(1) of none", y.spanStart(1), NONE);
    }

    private static void objectsAreApart() {
        RouteTable x = new RouteTable();
        RouteTable y = new RouteTable();
        x.put(0, 0, 1);
        same("apart: y.routes()", y.routes(), 0);
        y.put(0, 0, 2);
        same("apart: x.goal(9)", x.goal(9), 1);
        y.clear();
        same("apart: x.routes()", x.routes(), 1);
    }

    private static void questionsChangeNothing() {
        RouteTable x = nested();
        x.put(64, 3, 20);
        for (int round = 1; round <= 2; round++) {
            same("round " + round + ": routes()", x.routes(), 6);
            same("round " + round + ": exact(64, 3)", x.exact(64, 3), 20);
            same("round " + round + ": goal(70)", x.goal(70), 20);
            same("round " + round + ": bits(70)", x.bits(70), 3);
            same("round " + round + ": matching(70)", x.matching(70), 3);
            same("round " + round + ": next(1, 20)", x.next(1, 20), 65);
            same("round " + round + ": load(64, 3)", x.load(64, 3), 31);
            same("round " + round + ": sent(20)", x.sent(20), 31);
            yes("round " + round + ": idle(64, 3)", x.idle(64, 3));
            same("round " + round + ": spans()", x.spans(), 6);
            same("round " + round + ": spanStart(2)", x.spanStart(2), 65);
        }
    }
}
