import java.util.function.IntPredicate;
import java.util.function.IntUnaryOperator;

/** The boundary cases of THE TEXT, in the terms and in promises 23 to 25: a test for each sentence. */
public final class BoundaryTextTest extends Checks {
    /** All kinds of orders, with one blank where one is needed and none elsewhere. */
    private static final String ALL_KINDS = "k(0 11)(2 3 4);k;u0 11 3;w1 0 2;d5 3;g0;p1;";
    private static final int ORDERS_OF_ALL_KINDS = 7;
    private static final String FIGURES = "0123456789";

    public static void main(String[] args) {
        atMost120Bytes();
        typeAnswer();
        typeFull();
        clearAnswer();
        ordersEndedBySemicolon();
        cyclesOfTwoOrMore();
        noneOrMoreCycles();
        noSpotToldTwice();
        spotsNotToldStay();
        numbersInCycles();
        numbersAsTheirCallsTake();
        thirdFigure();
        blanksAnywhere();
        blanksNotWithinNumbers();
        blanksNeeded();
        blanksAre32Alone();
        eachByteAtEachPlace();
        faultOfNumberInCycle();
        faultOfTooFewNumbers();
        faultAtTheEnd();
        faultsAreTheFirst();
        nothingIsDoneByFault();
        readWholeFirst();
        ordersRefusedByBad();
        ordersRefusedByNo();
        ordersRefusedByFull();
        refusedThen();
        nothingCounts();
        doesAnswer();
        oneStateForAll();
        noStateByFaultOrRefusedOrder();
        theTextStays();
        end();
    }

    /** A square with two calls, the second wanting spot 11 held, and a dancer on 4. */
    private static CalledSquare ready() {
        CalledSquare x = withCalls(2);
        x.wants(1, 11, 1);
        x.dancer(4, 0);
        return x;
    }

    /** The text has its fault there: it is told, nothing is done, nothing counts. */
    private static void fault(String text, int place) {
        endsAll(text, -10 - place);
    }

    private static void refusedOrder(String text, int order) {
        endsAll(text, -1000 - order);
    }

    private static void endsAll(String text, int answer) {
        asks("'" + text + "'", () -> readyFor(text), x -> x.does(), answer);
    }

    private static CalledSquare readyFor(String text) {
        CalledSquare x = ready();
        write(x, text);
        return x;
    }

    private static void done(String text, int orders) {
        due("'" + text + "'", readyFor(text).does(), orders);
    }

    // ---- bytes

    private static void atMost120Bytes() {
        term("THE TEXT (120 bytes at most)");
        CalledSquare x = ready();
        write(x, "g0;".repeat(40));
        due("120 bytes", x.told(3), 120);
        due("all are read", x.does(), 40);
        due("the 121st", x.type(';'), FULL);
        due("does as ahead", x.does(), 40);
        fault(" ".repeat(120), 120);
        fault(" ".repeat(119) + ";", 119);
        fault("g0;".repeat(39) + "g0 ", 120);
        fault("g0;".repeat(39) + "g00", 120);
        done(" ".repeat(117) + "g0;", 1);
        done("g0;" + " ".repeat(117), 1);
        refusedOrder("g0;".repeat(39) + "g9;", 39);
    }

    private static void typeAnswer() {
        promise(23, "A byte (0 .. 127) comes behind THE TEXT: how many it has");
        CalledSquare x = new CalledSquare();
        for (int b = 0; b < 120; b++) {
            due("byte " + b, x.type(b), b + 1);
        }
        x.clear();
        for (int b = 120; b < 128; b++) {
            due("byte " + b, x.type(b), b - 119);
        }
        promise(23, "BAD");
        for (int b : new int[] {-1, 128, 256 + 32, 65536 + 32, -128, LEAST, MOST}) {
            refused("byte " + b, BoundaryTextTest::some, y -> y.type(b), BAD);
            refused("byte " + b + " behind 120", BoundaryTextTest::full, y -> y.type(b), BAD);
        }
    }

    private static void typeFull() {
        promise(23, "FULL: 120");
        refused("byte 0 behind 120", BoundaryTextTest::full, y -> y.type(0), FULL);
        refused("byte 127 behind 120", BoundaryTextTest::full, y -> y.type(127), FULL);
        CalledSquare x = new CalledSquare();
        for (int n = 1; n <= 120; n++) {
            due("byte " + n, x.type(32), n);
        }
        due("byte 121", x.type(32), FULL);
        due("bytes", x.told(3), 120);
        due("cleared", x.clear(), 120);
        due("room again", x.type(32), 1);
    }

    private static void clearAnswer() {
        promise(24, "THE TEXT is empty: how many it had");
        CalledSquare x = new CalledSquare();
        due("empty", x.clear(), 0);
        due("byte", x.type('k'), 1);
        due("one", x.clear(), 1);
        due("empty again", x.clear(), 0);
        due("nothing is left to do", x.does(), -10);
        write(x, "k;k;k;");
        x.clear();
        x.type('k');
        due("nothing stands behind what is typed", x.does(), -11);
    }

    // ---- orders

    private static void ordersEndedBySemicolon() {
        term("tells ORDERS, each ended by ;");
        done("k;", 1);
        done("k;k;", 2);
        fault("k", 1);
        fault("k;k", 3);
        fault("k;;", 2);
        fault(";", 0);
        fault("kk;", 1);
        fault("g0 g0;", 3);
        fault("g0:", 2);
        fault("k,", 1);
    }

    private static void cyclesOfTwoOrMore() {
        term("a CYCLE is ( and two or more numbers and ), each SPOT of it GOES to the next one, the last to the first");
        StringBuilder cycle = new StringBuilder("k(11");
        for (int numbers = 1; numbers <= 12; numbers++) {
            CalledSquare x = new CalledSquare();
            int answer = does(x, cycle + ");");
            due(numbers + " numbers", answer, numbers == 1 ? -14 : 1);
            for (int s = 0; s < 12 && numbers > 1; s++) {
                int goes = s <= 11 - numbers ? s : s == 12 - numbers ? 11 : s - 1;
                due(numbers + " numbers, spot " + s, x.at(0, s, 0), goes);
                due(numbers + " numbers, turn", x.at(0, s, 1), 0);
                due(numbers + " numbers, want", x.at(0, s, 2), 0);
            }
            cycle.append(' ').append(11 - numbers);
        }
        fault("k();", 2);
        fault("k( );", 3);
        fault("k(0);", 3);
        fault("k(0 );", 4);
        fault("k(10);", 4);
    }

    private static void noneOrMoreCycles() {
        term("none, or more CYCLES");
        String[] cycles = {"(0 1)", "(2 3)", "(4 5)", "(6 7)", "(8 9)", "(10 11)"};
        StringBuilder order = new StringBuilder("k");
        for (int n = 0; n <= 6; n++) {
            CalledSquare x = new CalledSquare();
            due(n + " cycles", does(x, order + ";"), 1);
            for (int s = 0; s < 12; s++) {
                due(n + " cycles, spot " + s, x.at(0, s, 0), s >= 2 * n ? s : s % 2 == 0 ? s + 1 : s - 1);
            }
            due("what is told", x.tells(0, 1), 2 * n);
            if (n < 6) {
                order.append(cycles[n]);
            }
        }
        fault(order + "();", order.length() + 1);
        fault(order + "(", order.length() + 1);
        fault(order + "(0 1);", order.length() + 1);
        fault(order + "(12 13);", order.length() + 1);
        done("k(0 1)(2 3 4)(5 6 7 8);", 1);
    }

    private static void noSpotToldTwice() {
        term("no SPOT is told twice in an ORDER");
        for (int s = 0; s < 12; s++) {
            int other = (s + 1) % 12;
            fault("k(" + s + " " + s + ");", 3 + figures(s));
            fault("k(" + s + " " + other + " " + s + ");", 4 + figures(s) + figures(other));
            fault("k(" + s + " " + other + ")(" + s + ");", 5 + figures(s) + figures(other));
            due("in the next order", does(new CalledSquare(), "k(" + s + " " + other + ");k(" + s + " " + other + ");"), 2);
        }
        fault("k(5 05);", 4);
        fault("k(05 5);", 5);
        fault("k(0 1)(2 1);", 9);
        fault("k(0 1)(2 3)(4 0);", 14);
        fault("k(0 1 2 3 4 5 6 7 8 9 10 11 0);", 28);
        fault("k(0 1 2 3 4 5 6 7 8 9 10 11 11);", 28);
    }

    private static int figures(int n) {
        return n < 10 ? 1 : 2;
    }

    private static void spotsNotToldStay() {
        term("those not told stay");
        CalledSquare x = new CalledSquare();
        due("two orders", does(x, "k(0 1 2)(10 11);k(5 6);"), 2);
        for (int s = 0; s < 12; s++) {
            due("spot " + s + " of the second", x.at(1, s, 0), s == 5 ? 6 : s == 6 ? 5 : s);
        }
        due("none told", does(x, "k(0 1);k;"), 2);
        due("0 stays", x.at(3, 0, 0), 0);
        due("the fault's cycles are gone", does(x, "k(0 1)(2 3"), -20);
        due("a call by call()", x.call(), 4);
        due("stays", x.at(4, 0, 0), 0);
    }

    // ---- numbers

    private static void numbersInCycles() {
        term("Numbers have 1 or 2 figures");
        for (int n = 0; n <= 99; n++) {
            String two = n < 10 ? "0" + n : "" + n;
            if (n >= 1 && n <= 11) {
                CalledSquare x = readyFor("k(0 " + n + ");k(0 " + two + ");");
                due("k(0 " + n + ")", x.does(), 2);
                due("goes by one form", x.at(2, 0, 0), n);
                due("goes by the other", x.at(3, 0, 0), n);
            } else {
                fault("k(0 " + n + ");", 4);
                fault("k(0 " + two + ");", 4);
                fault("k(0 1)( " + two + " 2);", 8);
            }
        }
    }

    /** An order with one number of 0 to 99 in it: done, or refused by its call. */
    private static void takes(String ahead, String behind, int most, IntPredicate but) {
        for (int n = 0; n <= 99; n++) {
            String two = n < 10 ? "0" + n : "" + n;
            int want = n <= most && !but.test(n) ? 1 : -1000;
            due(ahead + n + behind, readyFor(ahead + n + behind).does(), want);
            due(ahead + two + behind, readyFor(ahead + two + behind).does(), want);
        }
    }

    private static void numbersAsTheirCallsTake() {
        term("u c s t (as turns), w c s v (as wants), d s f (as dancer), g c (as gives), p c (as plans)");
        takes("u", " 0 0;", 1, n -> false);
        takes("u0 ", " 0;", 11, n -> false);
        takes("u0 0 ", ";", 3, n -> false);
        takes("w", " 0 0;", 1, n -> false);
        takes("w0 ", " 0;", 11, n -> false);
        takes("w0 0 ", ";", 2, n -> false);
        takes("d", " 0;", 11, n -> n == 4);
        takes("d0 ", ";", 3, n -> false);
        takes("g", ";", 1, n -> n == 1);
        takes("p", ";", 1, n -> false);
        CalledSquare x = ready();
        due("each of its kind", does(x, "u1 11 3;w0 10 2;d9 2;g0;p1;"), 5);
        due("turn", x.at(1, 11, 1), 3);
        due("want", x.at(0, 10, 2), 2);
        due("dancer's spot", x.of(1, 0), 9);
        due("dancer's facing", x.of(1, 1), 2);
        due("given", x.count(6), 1);
        due("planned", x.count(5), 1);
    }

    private static void thirdFigure() {
        term("a third figure itself, whatever the first two tell");
        fault("k(000 1);", 4);
        fault("k(0 011);", 6);
        fault("k(0 123);", 6);
        fault("k(0 999);", 6);
        fault("k(0 000);", 6);
        fault("k(0 1234567);", 6);
        fault("k(0 001", 6);
        fault("u000 0 0;", 3);
        fault("u0 000 0;", 5);
        fault("u0 0 000;", 7);
        fault("u991 0 0;", 3);
        fault("w000 0 0;", 3);
        fault("w0 120 0;", 5);
        fault("w0 0 030;", 7);
        fault("d000 0;", 3);
        fault("d0 000;", 5);
        fault("g000;", 3);
        fault("g001", 3);
        fault("p999;", 3);
        fault("p 999;", 4);
    }

    // ---- blanks

    private static void blanksAnywhere() {
        term("blanks (32) may stand anywhere but within a number");
        CalledSquare plain = readyFor(ALL_KINDS);
        due("without", plain.does(), ORDERS_OF_ALL_KINDS);
        plain.clear();
        for (int place = 0; place <= ALL_KINDS.length(); place++) {
            if (isWithinNumber(place)) {
                continue;
            }
            for (int blanks = 1; blanks <= 9; blanks += 4) {
                CalledSquare x = readyFor(ALL_KINDS.substring(0, place) + " ".repeat(blanks) + ALL_KINDS.substring(place));
                due(blanks + " at " + place, x.does(), ORDERS_OF_ALL_KINDS);
                x.clear();
                due("the same is done, " + blanks + " at " + place, x.digest() - plain.digest(), 0);
            }
        }
        done("   k   (   0   1   )   (   2   3   )   ;   p   0   ;   ", 2);
    }

    private static boolean isWithinNumber(int place) {
        return place > 0 && place < ALL_KINDS.length() && isFigure(ALL_KINDS.charAt(place - 1))
            && isFigure(ALL_KINDS.charAt(place));
    }

    private static boolean isFigure(int b) {
        return FIGURES.indexOf(b) >= 0;
    }

    private static void blanksNotWithinNumbers() {
        term("but within a number");
        fault("k(0 1 1);", 6);
        fault("u0 1 1 3;", 7);
        fault("w0 1 1 2;", 7);
        fault("d1 1 3;", 5);
        fault("g0 0;", 3);
        fault("p0 1;", 3);
        done("k(1 0);", 1);
        CalledSquare x = readyFor("k(0 1 2);k(0 12);");
        due("12 is one number", x.does(), -10 - 13);
        CalledSquare y = readyFor("k(0 1 2);k(1 0 2);");
        due("1 and 0 are two", y.does(), 2);
        due("1 goes to 0", y.at(3, 1, 0), 0);
    }

    private static void blanksNeeded() {
        term("needed only where figures of two numbers would else stand side by side");
        done("k(0 1)(2 3);u0 0 0;w0 0 0;d0 0;g0;p0;", 6);
        fault("k(01);", 4);
        fault("k(1011);", 4);
        fault("u00 0;", 5);
        fault("u0 00;", 5);
        fault("u0000;", 3);
        fault("d00;", 3);
        fault("d110;", 3);
        done("u00 00 00;", 1);
        done("d00 00;", 1);
    }

    private static void blanksAre32Alone() {
        term("blanks (32)");
        for (int b : new int[] {0, 9, 10, 11, 12, 13, 31, 33, 44, 95, 127}) {
            for (int place = 0; place <= ALL_KINDS.length(); place++) {
                String text = ALL_KINDS.substring(0, place) + (char) b + ALL_KINDS.substring(place);
                fault(text, place);
            }
        }
    }

    // ---- faults

    /** What each byte behind these makes of the text: done by 1, or a fault at the place told of it. */
    private static void eachByteBehind(String ahead, String mayStand, String done, IntUnaryOperator otherPlace) {
        for (int b = 0; b < 128; b++) {
            int length = ahead.length() + 1;
            int want = -10 - ahead.length();
            if (done.indexOf(b) >= 0) {
                want = 1;
            } else if (mayStand.indexOf(b) >= 0) {
                want = -10 - length;
            } else if (isFigure(b)) {
                want = -10 - otherPlace.applyAsInt(ahead.length());
            }
            due("'" + ahead + "' and byte " + b, readyFor(ahead + (char) b).does(), want);
        }
    }

    private static void eachByteAtEachPlace() {
        term("FAULT: the place of the first byte that can not stand there");
        IntUnaryOperator there = place -> place;
        String figureOrBlank = FIGURES + " ";
        eachByteBehind("", "kuwdgp ", "", there);
        eachByteBehind("  ", "kuwdgp ", "", there);
        eachByteBehind("k;", "kuwdgp", " ", there);
        eachByteBehind("k", "( ", ";", there);
        eachByteBehind("k ", "( ", ";", there);
        eachByteBehind("k(", figureOrBlank, "", there);
        eachByteBehind("k(0", figureOrBlank, "", there);
        eachByteBehind("k(0 ", "123456789 ", "", there);
        eachByteBehind("k(0 2", " )", "", place -> place - 1);
        eachByteBehind("k(0 1", "01 )", "", place -> place - 1);
        eachByteBehind("k(0 01", " )", "", there);
        eachByteBehind("k(0 1 ", "23456789 )", "", there);
        eachByteBehind("k(0 1)", "( ", ";", there);
        eachByteBehind("k(0 1)(", "23456789 ", "", there);
        eachByteBehind("k(0 1)(2", " ", "", place -> place - 1);
        eachByteBehind("k(0 1)(2 ", "3456789 ", "", there);
        eachByteBehind("k(0 1)(2 3", " )", "", place -> place - 1);
        eachByteBehind("k(0 1)(2 3)", "( ", ";", there);
        for (String order : new String[] {"u", "w", "d", "g", "p", "u0 ", "w0 ", "d0 ", "u0 0 ", "w0 0 "}) {
            eachByteBehind(order, figureOrBlank, "", there);
        }
        for (String order : new String[] {"u0", "w0", "d0", "u0 0", "w0 0"}) {
            eachByteBehind(order, figureOrBlank, "", there);
        }
        for (String order : new String[] {"u00", "w00", "d00", "u0 00", "w0 00"}) {
            eachByteBehind(order, " ", "", there);
        }
        for (String order : new String[] {"u0 0 0", "w0 0 0", "d0 0", "g0", "p0"}) {
            eachByteBehind(order, figureOrBlank, ";", there);
            eachByteBehind(order + "0", " ", ";", there);
            eachByteBehind(order + " ", " ", ";", there);
        }
    }

    private static void faultOfNumberInCycle() {
        term("of a number in a CYCLE that is no SPOT, or was told in this ORDER, its first figure");
        fault("k(12 0);", 2);
        fault("k(0 12);", 4);
        fault("k(0   99);", 6);
        fault("k(0 1 99);", 6);
        fault("k(0 1)(20 2);", 7);
        fault("k(0 1)(  01 2);", 9);
        fault("k(10 11 10);", 8);
        fault("k;k(0 0);", 6);
        fault("k(12", 2);
        fault("k(0 12", 4);
        fault("k(0 0", 4);
        fault("k(12)", 2);
        fault("k(12x", 2);
        done("u0 0 0;", 1);
        refusedOrder("u0 12 0;", 0);
    }

    private static void faultOfTooFewNumbers() {
        term("a ) behind fewer than two numbers");
        fault("k()", 2);
        fault("k(  )", 4);
        fault("k(0)", 3);
        fault("k(11  )", 6);
        fault("k(0 1)();", 7);
        fault("k(0 1)(2);", 8);
        fault("k(0 1)(2 3)(4);", 13);
        fault("k)", 1);
        fault("k(0 1))", 6);
        done("k(0 1)(2 3);", 1);
    }

    private static void faultAtTheEnd() {
        term("the TEXT's length, if it ends too early (one that is empty or has blanks alone, too)");
        fault("", 0);
        fault(" ", 1);
        fault("     ", 5);
        int ended = 0;
        for (int length = 1; length < ALL_KINDS.length(); length++) {
            String text = ALL_KINDS.substring(0, length);
            if (text.endsWith(";")) {
                ended++;
                done(text, ended);
                done(text + "  ", ended);
            } else {
                fault(text, length);
                if (!isFigure(text.charAt(length - 1))) {
                    fault(text + "  ", length + 2);
                }
            }
        }
        fault("g0  ", 4);
        fault("k(0 1  ", 7);
    }

    private static void faultsAreTheFirst() {
        term("the first byte that can not stand there");
        fault("x;y", 0);
        fault("k;x;k(0 0);", 2);
        fault("k(0 0)(1 1);", 4);
        fault("k(0 12 0 123);", 4);
        fault("g;k", 1);
        fault("k(0 1 x", 6);
        fault("K;", 0);
        fault("kuwdgp", 1);
        fault("g-1;", 1);
        fault("g+1;", 1);
    }

    private static void nothingIsDoneByFault() {
        term("If there is one, nothing is done");
        fault(ALL_KINDS + "x", ALL_KINDS.length());
        fault(ALL_KINDS + "g0", ALL_KINDS.length() + 2);
        fault("d0 0;d1 0;k(0 1);g2;p2;u2 0 1;w2 0 1;k(0 0);", 41);
        CalledSquare x = full();
        long before = x.digest();
        due("a full text with a fault", does(x, "p0;" + "g0;".repeat(38) + "g0,"), -10 - 119);
        due("as many bytes as ahead", x.told(3), 120);
        due("nothing is done", x.digest() - before, 0);
    }

    private static void readWholeFirst() {
        term("THE TEXT is read whole first");
        fault("g9;x", 3);
        fault("k;g9;k(0 0);", 9);
        fault("d12 9;p", 7);
        fault("k;k;k;k;k;k;k;k;k;k", 19);
        fault("g1;g", 4);
    }

    // ---- orders refused

    private static void ordersRefusedByBad() {
        term("an ORDER that its call would refuse then (a 9th CALL by k, too) ends all, nothing is done");
        for (String order : new String[] {
            "u2 0 0;", "u0 12 0;", "u0 0 4;", "u99 99 99;", "w2 0 0;", "w0 12 0;", "w0 0 3;", "w99 99 99;",
            "d12 0;", "d0 4;", "d99 99;", "d4 0;", "g2;", "g99;", "p2;", "p99;",
        }) {
            refusedOrder(order, 0);
            refusedOrder("k(0 1);k(4 5);" + order.replace("2 0 0", "4 0 0").replace("g2", "g4").replace("p2", "p4"), 2);
            refusedOrder("d11 0;u0 4 1;g1;p1;w0 7 2;" + order + "g0;", 5);
        }
        refusedOrder("k(4 5);g2;d4 0;", 2);
        refusedOrder("k(4 5);g2;d5 0;", 2);
    }

    private static void ordersRefusedByNo() {
        refusedOrder("g1;", 0);
        refusedOrder("p0;g1;", 1);
        refusedOrder("w0 4 2;g0;", 1);
        refusedOrder("w1 11 0;g1;w1 11 1;g1;", 3);
    }

    private static void ordersRefusedByFull() {
        term("a 9th CALL by k, too");
        refusedOrder("k;k;k;k;k;k;k;", 6);
        refusedOrder("k;k;k;k;k;k;k(0 1);g0;", 6);
        refusedOrder("p0;".repeat(13), 12);
        refusedOrder("d0 0;d1 0;d2 0;d3 0;d5 0;d6 0;d7 0;d8 0;", 7);
        done("k;k;k;k;k;k;", 6);
        done("p0;".repeat(12), 12);
        done("d0 0;d1 0;d2 0;d3 0;d5 0;d6 0;d7 0;", 7);
        asks("a 9th call", () -> {
            CalledSquare x = full();
            write(x, "g0;k;");
            return x;
        }, x -> x.does(), -1001);
    }

    /** An order is refused by how all is when its turn comes, not by how it is ahead of the text. */
    private static void refusedThen() {
        term("an ORDER that its call would refuse then");
        done("k;g2;u2 0 1;w2 0 1;p2;", 5);
        done("d11 0;g1;", 2);
        done("k(4 5);g2;g2;", 3);
        done("w1 11 0;g1;", 2);
        refusedOrder("d5 0;d5 0;", 1);
        refusedOrder("k(4 11);g2;w0 11 2;g0;", 3);
        refusedOrder("k(4 11);g2;g1;g2;g1;", 4);
        CalledSquare x = withCalls(7);
        due("an eighth, and a ninth", does(x, "k;k;"), -1001);
        due("the eighth alone", does(x, "k;"), 1);
    }

    private static void nothingCounts() {
        term("By THE TEXT nothing counts");
        CalledSquare x = ready();
        for (String text : new String[] {"", "x", "k(0 0);", "g9;", "g1;", "p0;".repeat(13), "k;".repeat(7), "d4 0;"}) {
            due("'" + text + "' is not done", Math.max(does(x, text), -10), -10);
            for (int what = 0; what < 3; what++) {
                due("'" + text + "' counted, " + what, x.told(what), 0);
            }
        }
    }

    // ---- does

    private static void doesAnswer() {
        for (int orders = 1; orders <= 40; orders++) {
            String ahead = "g0;".repeat(orders - 1);
            promise(25, "ORDERS are done (THE TEXT stays): how many");
            done(ahead + "g0;", orders);
            promise(25, "-1000 less the number (0 on) of the ORDER that ends all (no S)");
            refusedOrder(ahead + "g1;", orders - 1);
            promise(25, "-10 less the FAULT (no S)");
            fault(ahead + "g0", 3 * orders - 1);
        }
        fault("", 0);
        fault(" ".repeat(120), 120);
    }

    private static void oneStateForAll() {
        promise(25, "S (one STATE for all)");
        CalledSquare x = new CalledSquare();
        long before = x.digest();
        due("seven orders", does(x, "k(0 1);k;d0 0;d1 1;p0;g0;u0 0 3;"), 7);
        due("one state", x.told(4), 1);
        due("back", x.back(), 0);
        x.clear();
        due("all is taken back", x.digest() - before, 0);
        for (int i = 1; i <= 7; i++) {
            due("again", does(x, "k;"), 1);
            due("five states at most", x.told(4), Math.min(i, 5));
        }
        for (int left = 4; left >= 0; left--) {
            due("back", x.back(), left);
        }
        due("older ones are lost", x.back(), NO);
        due("two calls stay", x.count(1), 2);
    }

    private static void noStateByFaultOrRefusedOrder() {
        promise(25, "(no S)");
        for (String text : new String[] {"", "k", "k(0 0);", "g9;", "k;k;g9;", "d0 0;w0 0 2;g0;"}) {
            for (int states = 0; states <= 6; states++) {
                CalledSquare x = withCalls(states);
                due("'" + text + "' is not done", Math.max(does(x, text), -10), -10);
                int kept = Math.min(states, 5);
                due("'" + text + "' behind " + states, x.told(4), kept);
                for (int left = kept - 1; left >= 0; left--) {
                    due("back", x.back(), left);
                    due("calls", x.count(1), states - kept + left);
                }
                due("no more", x.back(), NO);
            }
        }
    }

    private static void theTextStays() {
        promise(25, "THE TEXT stays");
        CalledSquare x = ready();
        due("done", does(x, "k(0 11);"), 1);
        due("bytes", x.told(3), 8);
        due("done again", x.does(), 1);
        due("0 goes to 11", x.at(3, 0, 0), 11);
        due("more behind it", x.type('g'), 9);
        due("a fault at its end", x.does(), -19);
        due("bytes behind a fault", x.told(3), 9);
        x.type('9');
        x.type(';');
        due("an order refused", x.does(), -1001);
        due("bytes behind it", x.told(3), 11);
        due("cleared", x.clear(), 11);
    }
}
