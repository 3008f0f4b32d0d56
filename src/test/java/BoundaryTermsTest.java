import java.util.function.Supplier;

/** The boundary cases that the document's terms name, but for those of THE TEXT: a test for each sentence. */
public final class BoundaryTermsTest extends Checks {
    private static final int[][] NEXT_TO_ONE_ANOTHER = {
        {0, 1}, {1, 2}, {2, 3}, {4, 5}, {5, 6}, {6, 7}, {8, 9}, {9, 10}, {10, 11},
    };

    public static void main(String[] args) {
        spots();
        dancersNeverMoreThanEight();
        noTwoOnOneSpot();
        facings();
        homes();
        partners();
        paired();
        callsNeverMoreThanEight();
        noTwoGoToOneSpot();
        turnsAndWants();
        fits();
        facingWrapsAround();
        joinedTurnsWrapAround();
        joinedWants();
        joinedWay();
        turnedBack();
        round();
        roundIsLeast();
        rowsGo();
        variedByV();
        variedNotBehindItself();
        foundByAtMostN();
        foundFewestAndFirst();
        foundOfAsManyAsThereMayBe();
        goalsWithoutAnybody();
        goals();
        lookingChangesNothing();
        planNeverMoreThanTwelve();
        judgedFromNow();
        statesFiveAtMost();
        statesThoughNothingBecomesOther();
        statesOfAllCalls();
        statesKeepNeitherTextNorRefusals();
        noStateByOtherCalls();
        refusedByTheFirst();
        refusedGettersCount();
        fiveHundredAndTwelveCalls();
        end();
    }

    private static void spots() {
        term("11, row s / 4, column s % 4");
        CalledSquare x = new CalledSquare();
        for (int s = 0; s < 12; s++) {
            due("on(" + s + ")", x.on(s), NONE);
        }
        due("nothing refused", x.told(0), 0);
        due("on(12)", x.on(12), BAD);
        due("on(-1)", x.on(-1), BAD);
    }

    private static void dancersNeverMoreThanEight() {
        term("DANCERS 0 on, as they come (never more than 8)");
        CalledSquare x = new CalledSquare();
        for (int d = 0; d < 8; d++) {
            due("dancer " + d, x.dancer(11 - d, 0), d);
            due("so many", x.count(0), d + 1);
            due("each keeps its number", x.on(11), 0);
            due("the next is not there", x.of(d + 1, 0), BAD);
        }
        due("a ninth", x.dancer(0, 0), FULL);
        due("still eight", x.count(0), 8);
        due("none came", x.on(0), NONE);
    }

    private static void noTwoOnOneSpot() {
        term("each on a SPOT, no two on one");
        CalledSquare x = withDancers(0, 1, 2, 3, 4, 5, 6, 7);
        due("all twelve go round", does(x, "k(0 1 2 3 4 5 6 7 8 9 10 11);"), 1);
        for (int times = 1; times <= 12; times++) {
            due("given", x.gives(0), 8);
            for (int d = 0; d < 8; d++) {
                due("spot of " + d + ", given " + times + " times", x.of(d, 0), (d + times) % 12);
            }
        }
        due("on a held spot", x.dancer(7, 0), BAD);
    }

    private static void facings() {
        term("FACING 0 .. 3");
        for (int f = 0; f < 4; f++) {
            CalledSquare x = new CalledSquare();
            due("dancer facing " + f, x.dancer(f, f), 0);
            due("its facing", x.of(0, 1), f);
        }
        CalledSquare y = new CalledSquare();
        due("facing 4", y.dancer(0, 4), BAD);
        due("facing -1", y.dancer(0, -1), BAD);
        due("nobody came", y.count(0), 0);
    }

    private static void homes() {
        term("its HOME is the SPOT and the FACING with which it came");
        CalledSquare x = new CalledSquare();
        x.dancer(11, 3);
        does(x, "k(11 0);u0 11 1;k;u1 0 3;k(0 11);");
        due("spot and facing", x.of(0, 4), 1);
        x.gives(0);
        due("neither", x.of(0, 4), 0);
        x.gives(1);
        due("facing alone", x.of(0, 4), 0);
        due("it is facing 3", x.of(0, 1), 3);
        x.gives(2);
        due("both again", x.of(0, 4), 1);
        x.turns(2, 11, 1);
        x.wants(2, 0, 2);
        x.exchanges(2, 0, 11);
        x.gives(2);
        due("spot alone", x.of(0, 4), 0);
        due("it is on 11", x.of(0, 0), 11);
        due("home's spot stays", x.of(0, 2), 11);
        due("home's facing stays", x.of(0, 3), 3);
    }

    private static void partners() {
        term("PARTNERS: DANCERS 2 k and 2 k + 1, both there");
        int[] partner = {1, 0, 3, 2, 5, 4, 7, 6};
        CalledSquare x = new CalledSquare();
        for (int n = 1; n <= 8; n++) {
            x.dancer(n, 0);
            for (int d = 0; d < n; d++) {
                due("partner of " + d + " of " + n, x.of(d, 5), partner[d] < n ? partner[d] : NONE);
            }
            due("dancer " + (n - 1) + " is paired as it comes", x.of(n - 1, 6), n == 2 || n == 6 ? 1 : 0);
        }
    }

    private static void paired() {
        term("they are PAIRED, if their SPOTS are in one row, in columns next to one another, and they have one FACING");
        for (int a = 0; a < 12; a++) {
            for (int b = 0; b < 12; b++) {
                for (int f = 0; f < 16 && a != b; f++) {
                    int want = areNext(a, b) && f / 4 == f % 4 ? 1 : 0;
                    CalledSquare x = new CalledSquare();
                    x.dancer(a, f / 4);
                    x.dancer(b, f % 4);
                    String who = "spots " + a + ", " + b + ", facings " + f / 4 + ", " + f % 4;
                    due(who, x.of(0, 6), want);
                    due(who + ", asked of the other", x.of(1, 6), want);
                    due(who + ", counted", x.count(3), want);
                    due(who + ", as a goal", x.rows(1, 0), want);
                }
            }
        }
    }

    private static boolean areNext(int a, int b) {
        for (int[] pair : NEXT_TO_ONE_ANOTHER) {
            if (a == pair[0] && b == pair[1] || a == pair[1] && b == pair[0]) {
                return true;
            }
        }
        return false;
    }

    private static void callsNeverMoreThanEight() {
        term("CALLS 0 on, as they come (never more than 8)");
        CalledSquare x = new CalledSquare();
        due("by call()", x.call(), 0);
        due("by joins()", x.joins(0, 0), 1);
        due("by backwards()", x.backwards(1), 2);
        due("by k", does(x, "k(0 1);"), 1);
        due("four", x.count(1), 4);
        due("no fifth", x.at(4, 0, 0), BAD);
        due("call() again", x.call(), 4);
        due("joins() again", x.joins(4, 3), 5);
        due("backwards() again", x.backwards(3), 6);
        due("k again", x.does(), 1);
        due("the eighth is there", x.at(7, 0, 0), 1);
        due("eight", x.count(1), 8);
        due("a ninth by call()", x.call(), FULL);
        due("a ninth by joins()", x.joins(0, 1), FULL);
        due("a ninth by backwards()", x.backwards(7), FULL);
        due("a ninth by k", x.does(), -1000);
        due("still eight", x.count(1), 8);
        due("refused FULL, not by the text", x.told(2), 3);
    }

    private static void noTwoGoToOneSpot() {
        term("of each SPOT the SPOT it GOES to (no two to one)");
        CalledSquare x = withCalls(1);
        for (int i = 0; i < 30; i++) {
            x.exchanges(0, i * 7 % 12, (i * 5 + 1) % 12);
            int reached = 0;
            for (int s = 0; s < 12; s++) {
                reached |= 1 << x.at(0, s, 0);
            }
            due("spots that are gone to behind exchange " + i, reached, (1 << 12) - 1);
        }
    }

    private static void turnsAndWants() {
        term("a TURN (0 .. 3), a WANT (0 any, 1 HELD, 2 FREE)");
        for (int t = -1; t <= 4; t++) {
            CalledSquare x = withCalls(1);
            boolean isTurn = t >= 0 && t < 4;
            boolean isWant = t >= 0 && t < 3;
            due("turn " + t, x.turns(0, 11, t), isTurn ? 0 : BAD);
            due("it is", x.at(0, 11, 1), isTurn ? t : 0);
            due("want " + t, x.wants(0, 11, t), isWant ? 0 : BAD);
            due("it is", x.at(0, 11, 2), isWant ? t : 0);
        }
    }

    private static void fits() {
        term("A CALL FITS, if a DANCER is on each SPOT of WANT 1, none on each of WANT 2");
        for (int s = 0; s < 12; s++) {
            for (int v = 0; v < 3; v++) {
                CalledSquare free = withCalls(1);
                CalledSquare held = withCalls(1);
                held.dancer(s, 0);
                free.wants(0, s, v);
                held.wants(0, s, v);
                due("want " + v + " of free spot " + s, free.tells(0, 0), v == 1 ? 0 : 1);
                due("want " + v + " of held spot " + s, held.tells(0, 0), v == 2 ? 0 : 1);
                due("given, want " + v + " of free spot " + s, free.gives(0), v == 1 ? NO : 0);
                due("given, want " + v + " of held spot " + s, held.gives(0), v == 2 ? NO : 0);
            }
        }
        CalledSquare x = withDancers(0, 2, 4, 6, 8, 10, 11);
        does(x, "k;w0 0 1;w0 1 2;w0 2 1;w0 3 2;w0 4 1;w0 5 2;w0 6 1;w0 7 2;w0 8 1;w0 9 2;w0 10 1;w0 11 1;");
        due("all twelve wants as they are", x.tells(0, 0), 1);
        due("twelve wants", x.tells(0, 3), 12);
        x.wants(0, 11, 2);
        due("all but the last", x.tells(0, 0), 0);
        x.wants(0, 11, 1);
        x.wants(0, 0, 2);
        due("all but the first", x.tells(0, 0), 0);
    }

    private static void facingWrapsAround() {
        term("its FACING more by the TURN of s (by 4 left over)");
        int[][] behind = {{0, 1, 2, 3}, {1, 2, 3, 0}, {2, 3, 0, 1}, {3, 0, 1, 2}};
        for (int f = 0; f < 4; f++) {
            for (int t = 0; t < 4; t++) {
                CalledSquare x = new CalledSquare();
                x.dancer(11, f);
                cycle(x, 11, 0);
                x.turns(0, 11, t);
                x.turns(0, 0, 3 - t);
                x.plans(0);
                String how = "facing " + f + ", turn " + t;
                due(how + ", planned", x.planned(0, 1), behind[f][t]);
                due(how + ", changed", x.gives(0), 1);
                due(how + ", spot", x.of(0, 0), 0);
                due(how, x.of(0, 1), behind[f][t]);
            }
        }
    }

    private static void joinedTurnsWrapAround() {
        term("its TURN is that of s in a and that of this SPOT in b together (by 4 left over)");
        int[][] together = {{0, 1, 2, 3}, {1, 2, 3, 0}, {2, 3, 0, 1}, {3, 0, 1, 2}};
        for (int t = 0; t < 4; t++) {
            for (int u = 0; u < 4; u++) {
                CalledSquare x = new CalledSquare();
                int a = cycle(x, 0, 11);
                int b = x.call();
                x.turns(a, 0, t);
                x.turns(b, 11, u);
                due("joined", x.joins(a, b), 2);
                due("turns " + t + " and " + u, x.at(2, 0, 1), together[t][u]);
                due("turn of the other spot", x.at(2, 11, 1), 0);
            }
        }
    }

    private static void joinedWants() {
        term("its WANT is the one of s in a, if that is not 0, else the one of this SPOT in b. "
            + "(They can not be JOINED, if of some SPOT both are not 0 and unlike.)");
        int[][] joined = {{0, 1, 2}, {1, 1, NO}, {2, NO, 2}};
        for (int s = 0; s < 12; s++) {
            for (int v = 0; v < 9; v++) {
                CalledSquare x = withCalls(2);
                int t = (s + 5) % 12;
                x.exchanges(0, s, t);
                x.wants(0, s, v / 3);
                x.wants(1, t, v % 3);
                int want = joined[v / 3][v % 3];
                String how = "spot " + s + ", wants " + v / 3 + " and " + v % 3;
                due(how + ": joined", x.joins(0, 1), want == NO ? NO : 2);
                due(how, x.at(2, s, 2), want == NO ? BAD : want);
                due(how + ": calls", x.count(1), want == NO ? 2 : 3);
            }
        }
    }

    private static void joinedWay() {
        term("SPOT s GOES to where b takes the SPOT to which a takes s");
        CalledSquare x = new CalledSquare();
        does(x, "k(0 1 2 3 4 5 6 7 8 9 10 11);k(11 0);");
        x.joins(0, 1);
        x.joins(1, 0);
        x.joins(0, 0);
        for (int s = 0; s < 12; s++) {
            due("a first, spot " + s, x.at(2, s, 0), s == 10 ? 0 : s == 11 ? 11 : s + 1);
            due("b first, spot " + s, x.at(3, s, 0), s == 0 ? 0 : s == 11 ? 1 : s + 1);
            due("a and a, spot " + s, x.at(4, s, 0), (s + 2) % 12);
        }
    }

    private static void turnedBack() {
        term("where it takes s to t, it takes t to s, the TURN of t being what 4 less the TURN of s leaves by 4, "
            + "the WANT of t that of s");
        int[] back = {0, 3, 2, 1};
        for (int t = 0; t < 4; t++) {
            for (int v = 0; v < 3; v++) {
                CalledSquare x = new CalledSquare();
                cycle(x, 0, 11, 5);
                x.turns(0, 0, t);
                x.wants(0, 0, v);
                due("turned back", x.backwards(0), 1);
                due("11 to 0", x.at(1, 11, 0), 0);
                due("0 to 5", x.at(1, 0, 0), 5);
                due("5 to 11", x.at(1, 5, 0), 11);
                due("4 stays", x.at(1, 4, 0), 4);
                due("turn " + t, x.at(1, 11, 1), back[t]);
                due("turn of 0", x.at(1, 0, 1), 0);
                due("want " + v, x.at(1, 11, 2), v);
                due("want of 0", x.at(1, 0, 2), 0);
            }
        }
    }

    private static void round() {
        term("ROUND of a CALL: the least n, 1 or more, so that it GIVEN n times (whatever it WANTS) would leave "
            + "whoever stands on any SPOT there, FACING as ahead");
        int[] times = {1, 4, 2, 4};
        for (int length = 1; length <= 12; length++) {
            for (int t = 0; t < 4; t++) {
                CalledSquare x = withCalls(1);
                for (int s = 1; s < length; s++) {
                    x.exchanges(0, s - 1, s);
                }
                x.turns(0, length - 1, t);
                x.wants(0, 0, 1);
                x.wants(0, 11, 2);
                due("a cycle of " + length + ", turn " + t, x.tells(0, 2), length * times[t]);
            }
        }
        CalledSquare y = withCalls(1);
        due("nothing moves: once", y.tells(0, 2), 1);
        for (int s = 0; s < 12; s++) {
            y.turns(0, s, 2);
        }
        due("all turn by 2", y.tells(0, 2), 2);
        y.turns(0, 11, 1);
        due("the last by 1", y.tells(0, 2), 4);
    }

    /** Turns of one cycle are taken together; cycles side by side by the least that all divide. */
    private static void roundIsLeast() {
        term("the least n, 1 or more");
        CalledSquare x = new CalledSquare();
        does(x, "k(0 1)(2 3)(4 5)(6 7)(8 9)(10 11);u0 0 3;u0 1 1;");
        due("six of two, turned by 3 and 1", x.tells(0, 2), 2);
        does(x, "k(0 1 2 3)(4 5 6 7 8 9)(10 11);");
        due("4, 6, 2", x.tells(1, 2), 12);
        does(x, "k(0 1 2 3 4)(5 6 7 8)(9 10 11);");
        due("5, 4, 3", x.tells(2, 2), 60);
        x.turns(2, 5, 1);
        due("5, 16, 3: the longest of all", x.tells(2, 2), 240);
        does(x, "k(0 1 2)(3 4 5 6 7 8 9);u3 11 2;");
        due("3, 7, 1, 2", x.tells(3, 2), 42);
        does(x, "k(0 1 2 3 4 5 6 7 8 9 10 11);");
        for (int s = 0; s < 12; s++) {
            x.turns(4, s, 3);
        }
        due("twelve turned by 36 in all", x.tells(4, 2), 12);
        x.turns(4, 11, 0);
        due("twelve turned by 33 in all", x.tells(4, 2), 48);
    }

    private static void rowsGo() {
        term("A ROW of CALLS GOES, if each FITS when it is GIVEN behind those ahead of it, from how all is now");
        CalledSquare x = withDancers(1);
        int there = cycle(x, 1, 0);
        int turn = x.call();
        x.turns(turn, 1, 1);
        x.gives(turn);
        x.turns(turn, 1, 0);
        x.turns(turn, 0, 3);
        x.wants(turn, 0, 1);
        due("turn fits only behind there", x.tells(turn, 0), 0);
        due("home by there, turn, there", x.finds(0, 5, 5), 3);
        due("first", x.found(0, 5, 5, 0), there);
        due("then", x.found(0, 5, 5, 1), turn);
        due("last", x.found(0, 5, 5, 2), there);
        due("rows of three", x.rows(0, 3), 1);
        x.wants(there, 0, 2);
        due("there fits ahead of turn, not behind it", x.finds(0, 5, 5), NONE);
        due("no row of three goes home", x.rows(0, 3), 0);
        x.gives(there);
        due("from how all is now", x.finds(0, 5, 5), NONE);
        CalledSquare y = withDancers(0, 1);
        y.gives(cycle(y, 0, 2));
        y.wants(0, 1, 1);
        due("the first wants a held spot, it is held", y.finds(0, 1, 1), 1);
        y.wants(0, 1, 2);
        due("the first wants a free spot, it is held", y.finds(0, 1, 1), NONE);
        due("no row of one", y.rows(0, 1), 0);
        y.wants(0, 1, 0);
        y.wants(0, 0, 2);
        due("the first wants a free spot, it is free", y.finds(0, 1, 1), 1);
        y.wants(0, 0, 1);
        due("the first wants a held spot, it is free", y.rows(0, 1), 0);
    }

    private static void variedByV() {
        term("VARIED by v: no CALL is in it more than v times");
        for (int times = 1; times <= 3; times++) {
            CalledSquare x = withDancers(0);
            int step = cycle(x, 0, 1, 2, 3, 4, 5, 6);
            int still = x.call();
            for (int i = times; i < 7; i++) {
                x.gives(step);
            }
            int fewest = 2 * times - 1;
            for (int v = 1; v <= 5; v++) {
                due(times + " times by v " + v, x.finds(0, 5, v), v < times ? NONE : fewest);
                due(times + " times by v " + v + ", last call", x.found(0, 5, v, fewest - 1), v < times ? NONE : step);
            }
            due("something between", x.found(0, 5, 5, 1), times == 1 ? NONE : still);
        }
    }

    private static void variedNotBehindItself() {
        term("none right behind itself");
        CalledSquare x = withDancers(0);
        int step = cycle(x, 0, 1, 2);
        x.gives(step);
        due("twice on end", x.finds(0, 5, 5), NONE);
        due("rows need not be varied", x.rows(0, 2), 1);
        due("twice on end, asked again behind it", x.finds(0, 5, 5), NONE);
        int alike = cycle(x, 0, 1, 2);
        due("another that does the same", x.finds(0, 5, 1), 2);
        due("first", x.found(0, 5, 1, 0), step);
        due("then", x.found(0, 5, 1, 1), alike);
    }

    private static void foundByAtMostN() {
        term("of all ROWS of n CALLS at most (none, too)");
        for (int fewest = 0; fewest <= 6; fewest++) {
            CalledSquare x = withDancers(0);
            for (int c = 0; c < fewest; c++) {
                cycle(x, c, c + 1);
            }
            for (int c = 0; c < fewest; c++) {
                x.gives(c);
            }
            for (int n = 0; n <= 5; n++) {
                String how = fewest + " calls wanted, " + n + " at most";
                due(how, x.finds(0, n, 1), n < fewest ? NONE : fewest);
                for (int i = 0; i < 6; i++) {
                    int call = n < fewest || i >= fewest ? NONE : fewest - 1 - i;
                    due(how + ", call " + i, x.found(0, n, 1, i), call);
                }
            }
        }
    }

    private static void foundFewestAndFirst() {
        term("the one with the fewest CALLS, of such the first by numbers");
        CalledSquare x = withDancers(0);
        does(x, "k(0 1 2);k;k(0 2);k(0 1);k(1 2);k(2 1 0);");
        x.gives(5);
        due("on 2, one call", x.finds(0, 5, 5), 1);
        due("0 ahead of 2", x.found(0, 5, 5, 0), 0);
        x.wants(0, 11, 1);
        due("2, though 1 4 3 begins by less", x.found(0, 5, 5, 0), 2);
        x.wants(2, 11, 1);
        due("two calls", x.finds(0, 5, 5), 2);
        due("4 3", x.found(0, 5, 5, 0), 4);
        due("4 3", x.found(0, 5, 5, 1), 3);
        x.wants(0, 11, 0);
        x.turns(0, 2, 1);
        x.turns(1, 0, 3);
        due("0 1 is first, 4 3 is too", x.finds(0, 5, 5), 2);
        due("0 1", x.found(0, 5, 5, 0), 0);
        due("0 1", x.found(0, 5, 5, 1), 1);
        x.turns(1, 2, 3);
        due("0 1 ahead of 1 0", x.found(0, 5, 5, 0), 0);
    }

    /** Eight dancers side by side, two spots ahead of home; of eight calls five never fit. */
    private static void foundOfAsManyAsThereMayBe() {
        term("FOUND for a GOAL, by n and v");
        CalledSquare x = withDancers(0, 1, 2, 3, 4, 5, 6, 7);
        does(x, "k(0 1 2 3 4 5 6 7 8 9 10 11);g0;g0;k;");
        due("a step back", x.backwards(0), 2);
        does(x, "k;w3 0 2;w3 4 2;");
        for (int c = 4; c < 8; c++) {
            due("one more that never fits", x.joins(3, 3), c);
        }
        due("a step back twice", x.finds(0, 5, 5), 3);
        int[] row = {2, 1, 2, NONE};
        for (int i = 0; i < 4; i++) {
            due("call " + i, x.found(0, 5, 5, i), row[i]);
        }
        due("each once", x.finds(0, 5, 1), NONE);
        due("paired now", x.finds(1, 5, 5), 0);
        due("home and paired", x.finds(2, 5, 5), 3);
        due("two steps back among four: 6 with two still, 4 with one forth", x.rows(0, 4), 10);
        due("an even number of steps among four", x.rows(1, 4), 41);
        due("both", x.rows(2, 4), 10);
    }

    private static void goalsWithoutAnybody() {
        term("(Without DANCERS, PARTNERS they are so.)");
        CalledSquare x = withCalls(1);
        for (int g = 0; g < 3; g++) {
            due("nobody, goal " + g, x.finds(g, 0, 1), 0);
            due("nobody, rows of none, goal " + g, x.rows(g, 0), 1);
            due("nobody, rows of four, goal " + g, x.rows(g, 4), 1);
        }
        x.dancer(0, 0);
        due("one without partner, goal 1", x.finds(1, 0, 1), 0);
        due("one without partner at home, goal 2", x.finds(2, 0, 1), 0);
        x.exchanges(0, 0, 11);
        x.gives(0);
        due("one without partner away, goal 1", x.rows(1, 0), 1);
        due("one without partner away, goal 2", x.rows(2, 0), 0);
        due("one without partner away, goal 0", x.rows(0, 0), 0);
    }

    private static void goals() {
        term("GOALS: 0 all DANCERS are at HOME (SPOT and FACING); 1 all PARTNERS are PAIRED; 2 both");
        CalledSquare x = withDancers(0, 1, 4, 5, 8, 9, 2, 3);
        int[][] ofMove = {{0, 10}, {3, 11}, {2, 10}};
        for (int g = 0; g < 3; g++) {
            due("all at home and paired, goal " + g, x.rows(g, 0), 1);
        }
        for (int[] away : ofMove) {
            int c = cycle(x, away);
            x.gives(c);
            for (int g = 0; g < 3; g++) {
                due(away[0] + " is away, goal " + g, x.rows(g, 0), 0);
            }
            x.gives(c);
        }
        int turned = x.call();
        x.turns(turned, 3, 1);
        x.gives(turned);
        for (int g = 0; g < 3; g++) {
            due("the last faces elsewhere, goal " + g, x.rows(g, 0), 0);
        }
        x.turns(turned, 2, 1);
        x.turns(turned, 3, 0);
        x.gives(turned);
        due("two turned alike: not home", x.rows(0, 0), 0);
        due("two turned alike: paired", x.rows(1, 0), 1);
        due("two turned alike: not both", x.rows(2, 0), 0);
        CalledSquare y = withDancers(0, 2);
        due("at home, not paired: goal 0", y.rows(0, 0), 1);
        due("at home, not paired: goal 1", y.rows(1, 0), 0);
        due("at home, not paired: goal 2", y.rows(2, 0), 0);
    }

    private static void lookingChangesNothing() {
        term("Nothing changes by what is looked for");
        Supplier<CalledSquare> made = BoundaryTermsTest::lostOne;
        asks("finds what there is", made, x -> x.finds(0, 5, 5), 1);
        asks("finds none", made, x -> x.finds(1, 5, 5), NONE);
        asks("found", made, x -> x.found(0, 5, 5, 0), 1);
        asks("found none", made, x -> x.found(1, 5, 5, 0), NONE);
        asks("found, not so many", made, x -> x.found(0, 5, 5, 1), NONE);
        asks("rows", made, x -> x.rows(0, 3), 1);
        asks("rows, none", made, x -> x.rows(1, 4), 0);
        asks("judges", made, x -> x.judges(), 1);
        asks("planned", made, x -> x.planned(0, 0), 0);
    }

    /** One of two dancers is away; two ways to change that, and a plan that does not go. */
    private static CalledSquare lostOne() {
        CalledSquare x = withDancers(0, 11);
        cycle(x, 1, 0);
        cycle(x, 0, 1);
        x.gives(1);
        x.wants(0, 0, 1);
        x.plans(1);
        x.plans(0);
        x.wants(0, 1, 1);
        return x;
    }

    private static void planNeverMoreThanTwelve() {
        term("THE PLAN: up to 12 CALLS in a row");
        CalledSquare x = withDancers(0);
        cycle(x, 0, 1);
        x.call();
        for (int n = 1; n <= 12; n++) {
            due("plan of " + n, x.plans(0), n);
            due("dancer behind it", x.planned(0, 0), n % 2);
        }
        due("a 13th", x.plans(0), FULL);
        due("another as 13th", x.plans(1), FULL);
        due("a 13th by the text", does(x, "p0;"), -1000);
        due("still twelve", x.count(5), 12);
        due("dancer behind it still", x.planned(0, 0), 0);
        due("it goes", x.judges(), NONE);
    }

    private static void judgedFromNow() {
        term("JUDGED: from how all is now");
        CalledSquare x = withDancers(0);
        int there = cycle(x, 0, 1);
        x.wants(there, 0, 1);
        x.plans(there);
        due("goes from 0", x.judges(), NONE);
        due("to 1", x.planned(0, 0), 1);
        x.gives(there);
        due("does not go from 1", x.judges(), 0);
        due("stays on 1", x.planned(0, 0), 1);
        x.home();
        due("goes again", x.judges(), NONE);
        x.wants(there, 11, 1);
        due("by what the call wants now", x.judges(), 0);
    }

    private static void statesFiveAtMost() {
        term("5 at most, older ones lost");
        for (int changes = 0; changes <= 14; changes++) {
            CalledSquare x = new CalledSquare();
            x.call();
            for (int i = 1; i < changes; i++) {
                x.turns(0, i % 12, 1);
            }
            if (changes == 0) {
                x.back();
            }
            int states = Math.min(changes, 5);
            due(changes + " changes", x.told(4), states);
            for (int left = states - 1; left >= 0; left--) {
                due(changes + " changes, back", x.back(), left);
                due(changes + " changes, states left", x.told(4), left);
            }
            due(changes + " changes, no more", x.back(), NO);
            due(changes + " changes, calls that stay", x.count(1), changes > 5 ? 1 : 0);
            int turned = 0;
            for (int s = 0; s < 12 && changes > 5; s++) {
                turned += x.at(0, s, 1);
            }
            due(changes + " changes, turns that stay", turned, Math.max(changes - 6, 0));
        }
    }

    private static void statesThoughNothingBecomesOther() {
        term("each call told S, if it is not refused, leaves one, also if nothing becomes other by it");
        Supplier<CalledSquare> made = () -> {
            CalledSquare x = new CalledSquare();
            does(x, "d0 0;k;");
            write(x, "u0 0 0;");
            return x;
        };
        leavesState("turns as it was", made, x -> x.turns(0, 0, 0), 0);
        leavesState("wants as it was", made, x -> x.wants(0, 0, 0), 0);
        leavesState("gives, nobody changed", made, x -> x.gives(0), 0);
        leavesState("home, all are", made, x -> x.home(), 0);
        leavesState("scraps, empty", made, x -> x.scraps(), 0);
        leavesState("does, turn as it was", made, x -> x.does(), 1);
    }

    private static void statesOfAllCalls() {
        term("to go back to (all but THE TEXT and how often refused)");
        eachChange(BoundaryTermsTest::some);
        eachChange(() -> {
            CalledSquare x = some();
            x.turns(0, 0, 3);
            return x;
        });
        eachChange(() -> {
            CalledSquare x = some();
            x.back();
            x.gives(0);
            return x;
        });
    }

    private static void eachChange(Supplier<CalledSquare> made) {
        leavesState("dancer", made, x -> x.dancer(7, 1), 3);
        leavesState("call", made, x -> x.call(), 2);
        leavesState("exchanges", made, x -> x.exchanges(0, 0, 11), 11);
        leavesState("turns", made, x -> x.turns(0, 0, 1), 3);
        leavesState("wants", made, x -> x.wants(0, 3, 1), 2);
        leavesState("joins", made, x -> x.joins(0, 0), 2);
        leavesState("backwards", made, x -> x.backwards(0), 2);
        leavesState("gives", made, x -> x.gives(0), 2);
        leavesState("home", made, x -> x.home(), 2);
        leavesState("plans", made, x -> x.plans(1), 2);
        leavesState("scraps", made, x -> x.scraps(), 1);
        leavesState("does", () -> {
            CalledSquare x = made.get();
            write(x, "g0;p0;k(0 1);d7 0;u0 0 0;w0 3 0;");
            return x;
        }, x -> x.does(), 6);
    }

    private static void statesKeepNeitherTextNorRefusals() {
        term("all but THE TEXT and how often refused");
        CalledSquare x = new CalledSquare();
        write(x, "k;");
        x.call();
        x.on(12);
        x.gives(1);
        x.back();
        x.back();
        due("back() refused", x.told(1), 1);
        due("refusals stay counted", x.told(0), 2);
        due("the text stays", x.told(3), 2);
        x.call();
        write(x, "k(0 11);");
        x.back();
        due("what was typed since stays", x.told(3), 8);
        due("and can be done", x.does(), 1);
        due("0 goes to 11", x.at(0, 0, 0), 11);
        x.clear();
        x.back();
        due("a text that was cleared stays so", x.told(3), 0);
    }

    private static void noStateByOtherCalls() {
        term("STATES: each call told S");
        Supplier<CalledSquare> made = BoundaryTermsTest::some;
        asks("of", made, x -> x.of(0, 0), 1);
        asks("on", made, x -> x.on(0), NONE);
        asks("at", made, x -> x.at(0, 0, 0), 1);
        asks("tells", made, x -> x.tells(0, 0), 1);
        asks("count", made, x -> x.count(6), 1);
        asks("told", made, x -> x.told(0), 1);
        asks("digest", made, x -> (int) (x.digest() * 0), 0);
        CalledSquare x = new CalledSquare();
        x.type(107);
        due("type leaves none", x.told(4), 0);
        x.clear();
        due("clear leaves none", x.told(4), 0);
        x.call();
        x.back();
        due("back leaves none", x.back(), NO);
    }

    private static void refusedByTheFirst() {
        term("Refused (any call, getters, too), changing nothing but how often, the first of: "
            + "BAD -2 a number is not as told; NO -3, FULL -4 as told");
        Supplier<CalledSquare> made = BoundaryTermsTest::full;
        refused("dancer FULL", made, x -> x.dancer(11, 0), FULL);
        refused("dancer BAD by the spot ahead of FULL", made, x -> x.dancer(12, 0), BAD);
        refused("dancer BAD by the facing ahead of FULL", made, x -> x.dancer(11, 4), BAD);
        refused("dancer BAD, held, ahead of FULL", made, x -> x.dancer(3, 0), BAD);
        refused("call FULL", made, x -> x.call(), FULL);
        refused("joins FULL", made, x -> x.joins(2, 3), FULL);
        refused("joins NO ahead of FULL", made, x -> x.joins(0, 1), NO);
        refused("joins BAD ahead of FULL", made, x -> x.joins(0, 8), BAD);
        refused("joins BAD by the first ahead of FULL", made, x -> x.joins(8, 0), BAD);
        refused("backwards FULL", made, x -> x.backwards(7), FULL);
        refused("backwards BAD ahead of FULL", made, x -> x.backwards(8), BAD);
        refused("gives NO", made, x -> x.gives(1), NO);
        refused("gives BAD", made, x -> x.gives(8), BAD);
        refused("plans FULL", made, x -> x.plans(7), FULL);
        refused("plans BAD ahead of FULL", made, x -> x.plans(8), BAD);
        refused("type FULL", made, x -> x.type(127), FULL);
        refused("type BAD ahead of FULL", made, x -> x.type(128), BAD);
        refused("joins NO", () -> {
            CalledSquare x = some();
            x.wants(1, 3, 1);
            return x;
        }, x -> x.joins(1, 0), NO);
        refused("back NO", CalledSquare::new, x -> x.back(), NO);
    }

    private static void refusedGettersCount() {
        term("any call, getters, too");
        Supplier<CalledSquare> made = BoundaryTermsTest::some;
        refused("of", made, x -> x.of(3, 0), BAD);
        refused("on", made, x -> x.on(12), BAD);
        refused("at", made, x -> x.at(2, 0, 0), BAD);
        refused("tells", made, x -> x.tells(2, 0), BAD);
        refused("finds", made, x -> x.finds(3, 0, 1), BAD);
        refused("found", made, x -> x.found(0, 0, 1, -1), BAD);
        refused("rows", made, x -> x.rows(0, 5), BAD);
        refused("planned", made, x -> x.planned(3, 0), BAD);
        refused("count", made, x -> x.count(7), BAD);
        refused("told", made, x -> x.told(5), BAD);
    }

    private static void fiveHundredAndTwelveCalls() {
        sentence("## What it is", "An object is used for at most 512 calls after it has been made");
        CalledSquare refused = new CalledSquare();
        for (int i = 0; i < 511; i++) {
            refused.gives(i);
        }
        due("the 512th call: refused by the 511 ahead", refused.told(0), 511);
        CalledSquare given = withDancers(0);
        does(given, "k(0 1 2 3 4 5 6 7 8 9 10 11);u0 0 1;");
        int calls = 1 + 1 + given.told(3) + 1 + 1;
        int asked = 3 + 5 + 1;
        int times = 512 - calls - asked;
        for (int i = 0; i < times; i++) {
            given.gives(0);
        }
        due("given", given.count(6), times);
        due("spot", given.of(0, 0), times % 12);
        due("facing", given.of(0, 1), (times + 11) / 12 % 4);
        for (int left = 4; left >= 0; left--) {
            due("back", given.back(), left);
        }
        due("spot, five given less", given.of(0, 0), (times - 5) % 12);
    }
}
