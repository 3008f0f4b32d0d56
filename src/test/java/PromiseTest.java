import java.util.List;
import java.util.function.IntConsumer;
import java.util.function.ToIntFunction;

/**
 * Each promise of the document with ordinary inputs, the edges it names, and wrong inputs.
 * The due answers are worked out by hand from the document's words.
 */
public final class PromiseTest extends Checks {
    private static final int[] WRONG = {-1, LEAST, MOST};

    private static void due(int promise, String what, long got, long want) {
        about("promise " + promise);
        due(what, got, want);
    }

    public static void main(String[] args) {
        newObject();
        dancer();
        call();
        exchanges();
        turns();
        wants();
        joins();
        joinsRefused();
        backwards();
        gives();
        home();
        of();
        on();
        at();
        tellsFitsAndCounts();
        tellsRound();
        findsGoals();
        findsFewestAndFirst();
        findsVariety();
        findsChangesNothing();
        found();
        rows();
        plans();
        scraps();
        judges();
        planned();
        count();
        type();
        clear();
        doesOrders();
        doesFaults();
        doesRefusedOrders();
        doesState();
        back();
        backFromEach();
        backKeepsTextAndRefusals();
        told();
        digest();
        wildNumbers();
        end();
    }

    private static void newObject() {
        CalledSquare x = new CalledSquare();
        for (int what = 0; what < 7; what++) {
            due(1, "new count(" + what + ")", x.count(what), 0);
        }
        for (int what = 0; what < 5; what++) {
            due(1, "new told(" + what + ")", x.told(what), 0);
        }
        for (int s = 0; s < 12; s++) {
            due(1, "new on(" + s + ")", x.on(s), NONE);
        }
        due(1, "new judges()", x.judges(), NONE);
        due(1, "new finds(2, 0, 1)", x.finds(2, 0, 1), 0);
        due(1, "new back()", x.back(), NO);
        due(1, "new does()", x.does(), -10);
        due(1, "NONE", CalledSquare.NONE, -1);
        due(1, "BAD", CalledSquare.BAD, -2);
        due(1, "NO", CalledSquare.NO, -3);
        due(1, "FULL", CalledSquare.FULL, -4);
    }

    private static void dancer() {
        CalledSquare x = new CalledSquare();
        due(2, "dancer(11, 3)", x.dancer(11, 3), 0);
        due(2, "its spot", x.of(0, 0), 11);
        due(2, "its facing", x.of(0, 1), 3);
        due(2, "its home's spot", x.of(0, 2), 11);
        due(2, "its home's facing", x.of(0, 3), 3);
        due(2, "on a held spot", x.dancer(11, 0), BAD);
        due(2, "spot 12", x.dancer(12, 0), BAD);
        due(2, "spot -1", x.dancer(-1, 0), BAD);
        due(2, "facing 4", x.dancer(0, 4), BAD);
        due(2, "facing -1", x.dancer(0, -1), BAD);
        cycle(x, 11, 10);
        x.gives(0);
        due(2, "somebody's home, free now", x.dancer(11, 0), BAD);
        due(2, "nobody's home, held now", x.dancer(10, 0), BAD);
        for (int s = 0; s < 7; s++) {
            due(2, "dancer " + s, x.dancer(s, 0), s + 1);
        }
        due(2, "a ninth", x.dancer(8, 0), FULL);
        due(2, "a ninth, BAD ahead of FULL", x.dancer(0, 0), BAD);
        due(2, "a ninth on a home, BAD ahead of FULL", x.dancer(11, 0), BAD);
        due(2, "refused BAD", x.told(0), 9);
        due(2, "refused FULL", x.told(2), 1);
        due(2, "eight there", x.count(0), 8);
    }

    private static void call() {
        CalledSquare x = new CalledSquare();
        for (int c = 0; c < 8; c++) {
            due(3, "call " + c, x.call(), c);
            for (int s = 0; s < 12; s++) {
                due(3, "goes", x.at(c, s, 0), s);
                due(3, "turn", x.at(c, s, 1), 0);
                due(3, "want", x.at(c, s, 2), 0);
            }
        }
        due(3, "a ninth", x.call(), FULL);
        due(3, "refused FULL", x.told(2), 1);
        due(3, "states", x.told(4), 5);

        CalledSquare y = new CalledSquare();
        y.call();
        y.exchanges(0, 0, 1);
        y.turns(0, 2, 3);
        y.wants(0, 4, 1);
        y.back();
        y.back();
        y.back();
        y.back();
        due(3, "a call again behind one taken back", y.call(), 0);
        due(3, "its goes", y.at(0, 0, 0), 0);
        due(3, "its turn", y.at(0, 2, 1), 0);
        due(3, "its want", y.at(0, 4, 2), 0);
    }

    private static void exchanges() {
        CalledSquare x = withCalls(1);
        due(4, "exchanges(0, 0, 1)", x.exchanges(0, 0, 1), 1);
        due(4, "exchanges(0, 1, 2)", x.exchanges(0, 1, 2), 2);
        due(4, "0 goes", x.at(0, 0, 0), 1);
        due(4, "1 goes", x.at(0, 1, 0), 2);
        due(4, "2 goes", x.at(0, 2, 0), 0);
        due(4, "exchanges(0, 11, 2)", x.exchanges(0, 11, 2), 0);
        due(4, "2 goes then", x.at(0, 2, 0), 11);
        due(4, "alike", x.exchanges(0, 5, 5), BAD);
        due(4, "no such call", x.exchanges(1, 0, 1), BAD);
        due(4, "call -1", x.exchanges(-1, 0, 1), BAD);
        due(4, "a 12", x.exchanges(0, 12, 1), BAD);
        due(4, "b 12", x.exchanges(0, 1, 12), BAD);
        due(4, "a -1", x.exchanges(0, -1, 1), BAD);
        due(4, "b -1", x.exchanges(0, 1, -1), BAD);
        due(4, "refused BAD", x.told(0), 7);
        due(4, "turns stay", x.at(0, 0, 1), 0);
        due(4, "states", x.told(4), 4);
    }

    private static void turns() {
        CalledSquare x = withCalls(1);
        due(5, "turns(0, 11, 3)", x.turns(0, 11, 3), 0);
        due(5, "turns(0, 11, 1)", x.turns(0, 11, 1), 3);
        due(5, "at", x.at(0, 11, 1), 1);
        due(5, "another spot", x.at(0, 10, 1), 0);
        due(5, "turns(0, 11, 1) again", x.turns(0, 11, 1), 1);
        due(5, "states", x.told(4), 4);
        due(5, "turn 4", x.turns(0, 0, 4), BAD);
        due(5, "turn -1", x.turns(0, 0, -1), BAD);
        due(5, "spot 12", x.turns(0, 12, 0), BAD);
        due(5, "spot -1", x.turns(0, -1, 0), BAD);
        due(5, "call 1", x.turns(1, 0, 0), BAD);
        due(5, "call -1", x.turns(-1, 0, 0), BAD);
        due(5, "refused BAD", x.told(0), 6);
    }

    private static void wants() {
        CalledSquare x = withCalls(1);
        due(6, "wants(0, 11, 2)", x.wants(0, 11, 2), 0);
        due(6, "wants(0, 11, 1)", x.wants(0, 11, 1), 2);
        due(6, "at", x.at(0, 11, 2), 1);
        due(6, "another spot", x.at(0, 10, 2), 0);
        due(6, "wants(0, 11, 0)", x.wants(0, 11, 0), 1);
        due(6, "states", x.told(4), 4);
        due(6, "want 3", x.wants(0, 0, 3), BAD);
        due(6, "want -1", x.wants(0, 0, -1), BAD);
        due(6, "spot 12", x.wants(0, 12, 0), BAD);
        due(6, "spot -1", x.wants(0, -1, 0), BAD);
        due(6, "call 1", x.wants(1, 0, 0), BAD);
        due(6, "call -1", x.wants(-1, 0, 0), BAD);
        due(6, "refused BAD", x.told(0), 6);
    }

    private static void joins() {
        CalledSquare x = new CalledSquare();
        int a = cycle(x, 0, 1, 2);
        int b = cycle(x, 1, 5);
        x.turns(a, 0, 3);
        x.turns(b, 1, 2);
        x.turns(b, 0, 1);
        x.wants(a, 2, 1);
        x.wants(b, 5, 2);
        x.wants(b, 1, 2);
        int ab = x.joins(a, b);
        due(7, "its number", ab, 2);
        due(7, "0 by 1 to 5", x.at(ab, 0, 0), 5);
        due(7, "1 to 2", x.at(ab, 1, 0), 2);
        due(7, "2 to 0", x.at(ab, 2, 0), 0);
        due(7, "5 to 1", x.at(ab, 5, 0), 1);
        due(7, "turn of 0: 3 and 2", x.at(ab, 0, 1), 1);
        due(7, "turn of 2: 0 and 1", x.at(ab, 2, 1), 1);
        due(7, "turn of 1", x.at(ab, 1, 1), 0);
        due(7, "want of 2, from a", x.at(ab, 2, 2), 1);
        due(7, "want of 0, from b's 1", x.at(ab, 0, 2), 2);
        due(7, "want of 1, from b's 2", x.at(ab, 1, 2), 0);
        due(7, "want of 5, from b's 5", x.at(ab, 5, 2), 2);
        int ba = x.joins(b, a);
        due(7, "its number", ba, 3);
        due(7, "other way: 0 to 1", x.at(ba, 0, 0), 1);
        due(7, "other way: 1 to 5", x.at(ba, 1, 0), 5);
        due(7, "other way: 5 by 1 to 2", x.at(ba, 5, 0), 2);
        due(7, "other way: turn of 0: 1 and 3", x.at(ba, 0, 1), 0);
        int aa = x.joins(a, a);
        due(7, "alike: 0 to 2", x.at(aa, 0, 0), 2);
        due(7, "alike: 2 to 1", x.at(aa, 2, 0), 1);
        due(7, "alike: turn of 2: 0 and 3", x.at(aa, 2, 1), 3);
        due(7, "alike: want of 1, from 2", x.at(aa, 1, 2), 1);
        due(7, "a stays", x.at(a, 0, 0), 1);
    }

    private static void joinsRefused() {
        CalledSquare x = withCalls(2);
        x.wants(0, 3, 1);
        x.wants(1, 3, 2);
        due(7, "unlike wants", x.joins(0, 1), NO);
        due(7, "unlike wants, the other way", x.joins(1, 0), NO);
        due(7, "like wants", x.joins(0, 0), 2);
        due(7, "no call 3", x.joins(0, 3), BAD);
        due(7, "no call 3 first", x.joins(3, 0), BAD);
        due(7, "call -1", x.joins(-1, 0), BAD);
        due(7, "call -1 second", x.joins(0, -1), BAD);
        for (int c = 3; c < 8; c++) {
            x.call();
        }
        due(7, "NO ahead of FULL", x.joins(0, 1), NO);
        due(7, "BAD ahead of FULL", x.joins(0, 8), BAD);
        due(7, "FULL", x.joins(0, 0), FULL);
        due(7, "refused BAD", x.told(0), 5);
        due(7, "refused NO", x.told(1), 3);
        due(7, "refused FULL", x.told(2), 1);
        for (int s = 0; s < 12; s++) {
            CalledSquare z = withCalls(2);
            z.wants(0, s, 1);
            z.wants(1, s, 2);
            due(7, "unlike wants of spot " + s, z.joins(0, 1), NO);
        }
        // want of 4 in the first, and of the spot it goes to in the second
        CalledSquare y = new CalledSquare();
        cycle(y, 4, 5);
        y.call();
        y.wants(0, 4, 1);
        y.wants(1, 4, 2);
        due(7, "wants of spots apart", y.joins(0, 1), 2);
        y.wants(1, 5, 2);
        due(7, "wants of one spot on its way", y.joins(0, 1), NO);
    }

    private static void backwards() {
        CalledSquare x = new CalledSquare();
        int c = cycle(x, 0, 1, 2);
        x.turns(c, 0, 1);
        x.turns(c, 1, 2);
        x.turns(c, 7, 3);
        x.wants(c, 0, 2);
        x.wants(c, 7, 1);
        int b = x.backwards(c);
        due(8, "its number", b, 1);
        due(8, "1 to 0", x.at(b, 1, 0), 0);
        due(8, "2 to 1", x.at(b, 2, 0), 1);
        due(8, "0 to 2", x.at(b, 0, 0), 2);
        due(8, "7 stays", x.at(b, 7, 0), 7);
        due(8, "turn of 1, from 0", x.at(b, 1, 1), 3);
        due(8, "turn of 2, from 1", x.at(b, 2, 1), 2);
        due(8, "turn of 0, from 2", x.at(b, 0, 1), 0);
        due(8, "turn of 7", x.at(b, 7, 1), 1);
        due(8, "want of 1, from 0", x.at(b, 1, 2), 2);
        due(8, "want of 0, from 2", x.at(b, 0, 2), 0);
        due(8, "want of 7", x.at(b, 7, 2), 1);
        due(8, "joined: nothing moves", x.tells(x.joins(c, b), 2), 1);
        due(8, "no call 3", x.backwards(3), BAD);
        due(8, "call -1", x.backwards(-1), BAD);
        for (int i = 3; i < 8; i++) {
            due(8, "call " + i, x.backwards(0), i);
        }
        due(8, "FULL", x.backwards(0), FULL);
        due(8, "BAD ahead of FULL", x.backwards(8), BAD);
        due(8, "refused BAD", x.told(0), 3);
        due(8, "refused FULL", x.told(2), 1);
    }

    private static void gives() {
        CalledSquare x = new CalledSquare();
        x.dancer(0, 3);
        x.dancer(1, 0);
        x.dancer(7, 1);
        x.dancer(9, 2);
        int c = cycle(x, 0, 1, 2);
        x.turns(c, 0, 2);
        x.turns(c, 7, 3);
        due(9, "two by spot, one by facing", x.gives(c), 3);
        due(9, "0 to 1", x.of(0, 0), 1);
        due(9, "facing 3 and 2", x.of(0, 1), 1);
        due(9, "1 to 2", x.of(1, 0), 2);
        due(9, "facing as ahead", x.of(1, 1), 0);
        due(9, "7 stays", x.of(2, 0), 7);
        due(9, "facing 1 and 3", x.of(2, 1), 0);
        due(9, "9 stays", x.of(3, 0), 9);
        due(9, "facing stays", x.of(3, 1), 2);
        due(9, "home stays", x.of(0, 2), 0);
        x.wants(c, 9, 2);
        due(9, "wanted free, held", x.gives(c), NO);
        x.wants(c, 9, 1);
        due(9, "wanted held, held", x.gives(c), 3);
        x.wants(c, 11, 1);
        due(9, "wanted held, free", x.gives(c), NO);
        x.wants(c, 11, 2);
        due(9, "wanted free, free", x.gives(c), 3);
        due(9, "given", x.count(6), 3);
        due(9, "call 1", x.gives(1), BAD);
        due(9, "call -1", x.gives(-1), BAD);
        due(9, "refused NO", x.told(1), 2);
        due(9, "refused BAD", x.told(0), 2);
        due(9, "given still", x.count(6), 3);
        CalledSquare y = withCalls(1);
        due(9, "nobody there", y.gives(0), 0);
        due(9, "given all the same", y.count(6), 1);
    }

    private static void home() {
        CalledSquare x = new CalledSquare();
        due(10, "nobody", x.home(), 0);
        x.dancer(0, 0);
        x.dancer(1, 1);
        x.dancer(2, 2);
        int c = cycle(x, 0, 1);
        x.turns(c, 2, 1);
        x.gives(c);
        due(10, "all were away", x.home(), 3);
        due(10, "spot", x.of(1, 0), 1);
        due(10, "facing", x.of(2, 1), 2);
        due(10, "none was away", x.home(), 0);
        due(10, "given stays", x.count(6), 1);
        x.back();
        x.back();
        due(10, "away again", x.count(2), 0);
    }

    private static void of() {
        CalledSquare x = new CalledSquare();
        x.dancer(4, 1);
        due(11, "no partner", x.of(0, 5), NONE);
        due(11, "not paired without", x.of(0, 6), 0);
        x.dancer(5, 1);
        x.dancer(3, 2);
        due(11, "partner of 0", x.of(0, 5), 1);
        due(11, "partner of 1", x.of(1, 5), 0);
        due(11, "partner of 2", x.of(2, 5), NONE);
        due(11, "0 paired", x.of(0, 6), 1);
        due(11, "1 paired", x.of(1, 6), 1);
        due(11, "2 not paired", x.of(2, 6), 0);
        due(11, "0 at home", x.of(0, 4), 1);
        x.call();
        x.turns(0, 4, 1);
        x.gives(0);
        due(11, "0 away by facing", x.of(0, 4), 0);
        due(11, "unlike facings", x.of(0, 6), 0);
        due(11, "facing", x.of(0, 1), 2);
        due(11, "home's facing", x.of(0, 3), 1);
        CalledSquare y = new CalledSquare();
        y.dancer(3, 0);
        y.dancer(4, 0);
        due(11, "3 and 4 are in two rows", y.of(0, 6), 0);
        y.dancer(6, 0);
        y.dancer(10, 0);
        due(11, "one column, rows apart", y.of(2, 6), 0);
        y.dancer(0, 0);
        y.dancer(2, 0);
        due(11, "two columns apart", y.of(4, 6), 0);
        y.dancer(9, 3);
        y.dancer(8, 3);
        due(11, "the greater spot first", y.of(6, 6), 1);
        int before = y.told(0);
        due(11, "dancer 8", y.of(8, 0), BAD);
        due(11, "dancer -1", y.of(-1, 0), BAD);
        due(11, "what 7", y.of(0, 7), BAD);
        due(11, "what -1", y.of(0, -1), BAD);
        due(11, "refused BAD", y.told(0) - before, 4);
    }

    private static void on() {
        CalledSquare x = new CalledSquare();
        x.dancer(0, 0);
        x.dancer(11, 0);
        due(12, "on(0)", x.on(0), 0);
        due(12, "on(11)", x.on(11), 1);
        due(12, "on(5)", x.on(5), NONE);
        cycle(x, 0, 5);
        x.gives(0);
        due(12, "on(5) then", x.on(5), 0);
        due(12, "on(0) then", x.on(0), NONE);
        due(12, "NONE is no refusal", x.told(0), 0);
        due(12, "on(12)", x.on(12), BAD);
        due(12, "on(-1)", x.on(-1), BAD);
        due(12, "refused BAD", x.told(0), 2);
    }

    private static void at() {
        CalledSquare x = withCalls(8);
        x.exchanges(7, 11, 0);
        x.turns(7, 11, 2);
        x.wants(7, 11, 1);
        due(13, "goes", x.at(7, 11, 0), 0);
        due(13, "turn", x.at(7, 11, 1), 2);
        due(13, "want", x.at(7, 11, 2), 1);
        due(13, "call 6", x.at(6, 11, 0), 11);
        due(13, "call 8", x.at(8, 0, 0), BAD);
        due(13, "call -1", x.at(-1, 0, 0), BAD);
        due(13, "spot 12", x.at(0, 12, 0), BAD);
        due(13, "spot -1", x.at(0, -1, 0), BAD);
        due(13, "what 3", x.at(0, 0, 3), BAD);
        due(13, "what -1", x.at(0, 0, -1), BAD);
        due(13, "refused BAD", x.told(0), 6);
    }

    private static void tellsFitsAndCounts() {
        CalledSquare x = new CalledSquare();
        x.dancer(0, 0);
        cycle(x, 0, 1, 2);
        due(14, "fits", x.tells(0, 0), 1);
        due(14, "three go", x.tells(0, 1), 3);
        due(14, "no wants", x.tells(0, 3), 0);
        x.wants(0, 0, 1);
        x.wants(0, 11, 2);
        due(14, "fits still", x.tells(0, 0), 1);
        due(14, "two wants", x.tells(0, 3), 2);
        x.wants(0, 3, 1);
        due(14, "3 is not held", x.tells(0, 0), 0);
        x.wants(0, 3, 0);
        x.wants(0, 0, 2);
        due(14, "0 is not free", x.tells(0, 0), 0);
        due(14, "call 1", x.tells(1, 0), BAD);
        due(14, "call -1", x.tells(-1, 0), BAD);
        due(14, "what 4", x.tells(0, 4), BAD);
        due(14, "what -1", x.tells(0, -1), BAD);
        due(14, "refused BAD", x.told(0), 4);
    }

    private static void tellsRound() {
        CalledSquare x = new CalledSquare();
        due(14, "no such call", x.tells(0, 2), BAD);
        x.call();
        due(14, "all stay", x.tells(0, 2), 1);
        x.turns(0, 3, 1);
        due(14, "one turned by 1", x.tells(0, 2), 4);
        x.turns(0, 3, 2);
        due(14, "one turned by 2", x.tells(0, 2), 2);
        x.turns(0, 3, 3);
        due(14, "one turned by 3", x.tells(0, 2), 4);
        cycle(x, 0, 1, 2);
        due(14, "three", x.tells(1, 2), 3);
        x.turns(1, 0, 2);
        x.turns(1, 1, 2);
        due(14, "three, turned by 4 in all", x.tells(1, 2), 3);
        x.turns(1, 2, 2);
        due(14, "three, turned by 6 in all", x.tells(1, 2), 6);
        x.wants(1, 0, 1);
        due(14, "whatever it wants", x.tells(1, 2), 6);
        due(14, "5, 4, 3", does(x, "k(0 1 2 3 4)(5 6 7 8)(9 10 11);"), 1);
        due(14, "round", x.tells(2, 2), 60);
        due(14, "with turns", does(x, "u2 0 1;u2 5 3;u2 9 2;"), 3);
        due(14, "20, 16, 6", x.tells(2, 2), 240);
        due(14, "twelve", does(x, "k(0 1 2 3 4 5 6 7 8 9 10 11);u3 0 3;"), 2);
        due(14, "48", x.tells(3, 2), 48);
    }

    private static void findsGoals() {
        CalledSquare x = new CalledSquare();
        due(15, "no dancers, goal 0", x.finds(0, 0, 1), 0);
        due(15, "no dancers, goal 1", x.finds(1, 5, 5), 0);
        x.dancer(0, 0);
        x.dancer(2, 0);
        int c = cycle(x, 2, 1);
        due(15, "home now", x.finds(0, 0, 1), 0);
        due(15, "not paired", x.finds(1, 0, 1), NONE);
        due(15, "paired behind one", x.finds(1, 1, 1), 1);
        due(15, "home and paired, never", x.finds(2, 5, 5), NONE);
        x.gives(c);
        due(15, "paired now", x.finds(1, 5, 1), 0);
        due(15, "home behind one", x.finds(0, 5, 1), 1);
        x.dancer(9, 1);
        due(15, "one without partner: not looked at", x.finds(1, 5, 1), 0);
        x.call();
        x.turns(1, 9, 1);
        x.gives(1);
        due(15, "facing is looked at: c once, 1 three times", x.finds(0, 5, 3), NONE);
        x.turns(1, 9, 3);
        due(15, "home by both", x.finds(0, 5, 3), 2);
        due(15, "goal 3", x.finds(3, 0, 1), BAD);
        due(15, "goal -1", x.finds(-1, 0, 1), BAD);
        due(15, "n 6", x.finds(0, 6, 1), BAD);
        due(15, "n -1", x.finds(0, -1, 1), BAD);
        due(15, "v 0", x.finds(0, 0, 0), BAD);
        due(15, "v 6", x.finds(0, 0, 6), BAD);
        due(15, "refused BAD", x.told(0), 6);
    }

    private static void findsFewestAndFirst() {
        CalledSquare x = new CalledSquare();
        x.dancer(0, 0);
        cycle(x, 0, 1, 2);
        int other = cycle(x, 2, 1, 0);
        x.gives(other);
        x.call();
        x.joins(0, 2);
        due(15, "0 brings it home", x.finds(0, 5, 5), 1);
        due(16, "0 is first of 0 and 3", x.found(0, 5, 5, 0), 0);
        x.wants(0, 5, 1);
        due(15, "3 alone", x.finds(0, 5, 5), 1);
        due(16, "0 does not fit", x.found(0, 5, 5, 0), 3);
        x.wants(3, 5, 1);
        due(15, "1 and 1 again with something between", x.finds(0, 5, 5), 3);
        due(16, "first", x.found(0, 5, 5, 0), 1);
        due(16, "between", x.found(0, 5, 5, 1), 2);
        due(16, "last", x.found(0, 5, 5, 2), 1);
        due(16, "no more", x.found(0, 5, 5, 3), NONE);
        due(15, "not by two", x.finds(0, 2, 5), NONE);
        due(16, "not by two", x.found(0, 2, 5, 0), NONE);
        due(15, "not with each once", x.finds(0, 5, 1), NONE);
    }

    private static void findsVariety() {
        CalledSquare x = new CalledSquare();
        x.dancer(0, 0);
        int step = cycle(x, 0, 1, 2, 3);
        x.gives(step);
        due(15, "never right behind itself", x.finds(0, 5, 5), NONE);
        int still = x.call();
        due(15, "three times, with one between", x.finds(0, 5, 3), 5);
        due(15, "by four", x.finds(0, 4, 3), NONE);
        due(15, "twice each at most", x.finds(0, 5, 2), NONE);
        int[] row = {step, still, step, still, step};
        for (int i = 0; i < 5; i++) {
            due(16, "call " + i, x.found(0, 5, 3, i), row[i]);
        }
        due(16, "call 5", x.found(0, 5, 3, 5), NONE);
        x.joins(step, step);
        due(15, "two calls", x.finds(0, 5, 1), 2);
        due(16, "first by numbers", x.found(0, 5, 1, 0), step);
        due(16, "then", x.found(0, 5, 1, 1), 2);
    }

    private static void findsChangesNothing() {
        CalledSquare x = new CalledSquare();
        x.dancer(0, 0);
        cycle(x, 0, 1);
        cycle(x, 1, 2);
        x.gives(0);
        x.plans(1);
        long before = x.digest();
        for (int g = 0; g < 3; g++) {
            x.finds(g, 5, 5);
            x.found(g, 5, 5, 0);
            x.rows(g, 4);
        }
        x.judges();
        x.planned(0, 0);
        due(15, "digest stays", x.digest() - before, 0);
    }

    private static void found() {
        CalledSquare x = withCalls(1);
        due(16, "a row without calls", x.found(0, 5, 5, 0), NONE);
        due(16, "i far off", x.found(0, 5, 5, Integer.MAX_VALUE), NONE);
        due(16, "NONE is no refusal", x.told(0), 0);
        due(16, "i -1", x.found(0, 5, 5, -1), BAD);
        due(16, "goal 3", x.found(3, 5, 5, 0), BAD);
        due(16, "goal -1", x.found(-1, 5, 5, 0), BAD);
        due(16, "n 6", x.found(0, 6, 5, 0), BAD);
        due(16, "n -1", x.found(0, -1, 5, 0), BAD);
        due(16, "v 0", x.found(0, 5, 0, 0), BAD);
        due(16, "v 6", x.found(0, 5, 6, 0), BAD);
        due(16, "refused BAD", x.told(0), 7);
    }

    private static void rows() {
        CalledSquare x = new CalledSquare();
        due(17, "no calls, n 0", x.rows(0, 0), 1);
        due(17, "no calls, n 1", x.rows(0, 1), 0);
        x.dancer(0, 0);
        cycle(x, 0, 1);
        due(17, "one call, 0", x.rows(0, 0), 1);
        due(17, "one call, 1", x.rows(0, 1), 0);
        due(17, "one call, 2", x.rows(0, 2), 1);
        due(17, "one call, 4, not varied", x.rows(0, 4), 1);
        x.call();
        due(17, "an even number of 0s among 4", x.rows(0, 4), 8);
        x.wants(0, 1, 2);
        due(17, "0 only while 1 is free: 1 1 1 1", x.rows(0, 4), 1);
        due(17, "goal 1 without partners", x.rows(1, 2), 3);
        x.gives(0);
        due(17, "not home, n 0", x.rows(0, 0), 0);
        CalledSquare y = withCalls(8);
        due(17, "all rows of 4", y.rows(2, 4), 4096);
        due(17, "all rows of 3", y.rows(0, 3), 512);
        due(17, "goal 3", y.rows(3, 0), BAD);
        due(17, "goal -1", y.rows(-1, 0), BAD);
        due(17, "n 5", y.rows(0, 5), BAD);
        due(17, "n -1", y.rows(0, -1), BAD);
        due(17, "refused BAD", y.told(0), 4);
    }

    private static void plans() {
        CalledSquare x = withCalls(2);
        due(18, "call 2", x.plans(2), BAD);
        due(18, "call -1", x.plans(-1), BAD);
        for (int i = 1; i <= 12; i++) {
            due(18, "plan of " + i, x.plans(i % 2), i);
        }
        due(18, "a 13th", x.plans(0), FULL);
        due(18, "BAD ahead of FULL", x.plans(2), BAD);
        due(18, "count", x.count(5), 12);
        due(18, "refused FULL", x.told(2), 1);
        due(18, "refused BAD", x.told(0), 3);
        x.back();
        due(18, "one back", x.count(5), 11);
    }

    private static void scraps() {
        CalledSquare x = withCalls(1);
        due(19, "empty", x.scraps(), 0);
        x.plans(0);
        x.plans(0);
        due(19, "two", x.scraps(), 2);
        due(19, "none then", x.count(5), 0);
        due(19, "states", x.told(4), 5);
        x.back();
        due(19, "two back", x.count(5), 2);
    }

    private static void judges() {
        CalledSquare x = new CalledSquare();
        x.dancer(0, 0);
        int forth = cycle(x, 0, 1);
        x.wants(forth, 0, 1);
        int still = x.call();
        due(20, "empty plan", x.judges(), NONE);
        x.plans(still);
        x.plans(forth);
        due(20, "goes", x.judges(), NONE);
        x.plans(still);
        x.plans(forth);
        x.plans(still);
        due(20, "4th does not fit", x.judges(), 3);
        x.gives(forth);
        due(20, "from how all is now", x.judges(), 1);
        x.wants(still, 11, 1);
        due(20, "the first", x.judges(), 0);
        due(20, "no refusal", x.told(0) + x.told(1) + x.told(2), 0);
        due(20, "no given", x.count(6), 1);
    }

    private static void planned() {
        CalledSquare x = new CalledSquare();
        x.dancer(0, 3);
        x.dancer(8, 0);
        int forth = cycle(x, 0, 1, 2);
        x.turns(forth, 0, 2);
        x.wants(forth, 2, 2);
        due(21, "empty plan: spot", x.planned(0, 0), 0);
        due(21, "empty plan: facing", x.planned(0, 1), 3);
        x.plans(forth);
        due(21, "spot", x.planned(0, 0), 1);
        due(21, "facing", x.planned(0, 1), 1);
        x.plans(forth);
        x.plans(forth);
        due(21, "as far as it goes", x.planned(0, 0), 2);
        due(21, "another dancer", x.planned(1, 0), 8);
        due(21, "nothing is given", x.of(0, 0), 0);
        due(21, "dancer 2", x.planned(2, 0), BAD);
        due(21, "dancer -1", x.planned(-1, 0), BAD);
        due(21, "what 2", x.planned(0, 2), BAD);
        due(21, "what -1", x.planned(0, -1), BAD);
        due(21, "refused BAD", x.told(0), 4);
    }

    private static void count() {
        CalledSquare x = new CalledSquare();
        x.dancer(0, 0);
        x.dancer(1, 0);
        x.dancer(4, 0);
        x.dancer(5, 1);
        x.dancer(8, 0);
        x.call();
        x.call();
        x.call();
        x.wants(1, 0, 2);
        x.wants(2, 0, 1);
        x.turns(0, 5, 3);
        x.plans(0);
        due(22, "dancers", x.count(0), 5);
        due(22, "calls", x.count(1), 3);
        due(22, "at home", x.count(2), 5);
        due(22, "paired", x.count(3), 1);
        due(22, "fit", x.count(4), 5);
        due(22, "plan", x.count(5), 1);
        due(22, "given", x.count(6), 0);
        x.gives(0);
        due(22, "at home then", x.count(2), 4);
        due(22, "paired then", x.count(3), 2);
        x.gives(2);
        due(22, "given then", x.count(6), 2);
        x.back();
        due(22, "those taken back not", x.count(6), 1);
        due(22, "by a text, too", does(x, "g0;g0;"), 2);
        due(22, "given by it", x.count(6), 3);
        due(22, "what 7", x.count(7), BAD);
        due(22, "what -1", x.count(-1), BAD);
        due(22, "refused BAD", x.told(0), 2);
    }

    private static void type() {
        CalledSquare x = new CalledSquare();
        due(23, "byte 0", x.type(0), 1);
        due(23, "byte 127", x.type(127), 2);
        due(23, "byte 128", x.type(128), BAD);
        due(23, "byte -1", x.type(-1), BAD);
        for (int i = 3; i <= 120; i++) {
            due(23, "byte " + i, x.type(32), i);
        }
        due(23, "a 121st", x.type(32), FULL);
        due(23, "BAD ahead of FULL", x.type(128), BAD);
        due(23, "bytes", x.told(3), 120);
        due(23, "no state", x.told(4), 0);
        due(23, "refused BAD", x.told(0), 3);
        due(23, "refused FULL", x.told(2), 1);
    }

    private static void clear() {
        CalledSquare x = new CalledSquare();
        due(24, "empty", x.clear(), 0);
        x.type(107);
        x.type(59);
        due(24, "two", x.clear(), 2);
        due(24, "bytes", x.told(3), 0);
        due(24, "no state", x.told(4), 0);
        due(24, "empty text", x.does(), -10);
    }

    private static void doesOrders() {
        CalledSquare x = new CalledSquare();
        due(25, "all kinds", does(x, "k(0 1)( 5 06 7 );u0 0 3;w0 11 2;d0 1;d 1 0 ; p0;g0;"), 7);
        due(25, "0 goes", x.at(0, 0, 0), 1);
        due(25, "1 goes", x.at(0, 1, 0), 0);
        due(25, "5 goes", x.at(0, 5, 0), 6);
        due(25, "6 goes", x.at(0, 6, 0), 7);
        due(25, "7 goes", x.at(0, 7, 0), 5);
        due(25, "2 stays", x.at(0, 2, 0), 2);
        due(25, "turn", x.at(0, 0, 1), 3);
        due(25, "want", x.at(0, 11, 2), 2);
        due(25, "dancers", x.count(0), 2);
        due(25, "plan", x.count(5), 1);
        due(25, "given", x.count(6), 1);
        due(25, "dancer 0 on 1", x.on(1), 0);
        due(25, "it faces 1 and 3", x.of(0, 1), 0);
        due(25, "the text stays", x.told(3), 51);
        due(25, "one state", x.told(4), 1);
        due(25, "blanks all over", does(x, "   k   (  2   3  )   ;   "), 1);
        due(25, "2 goes", x.at(1, 2, 0), 3);
        due(25, "the cycles of an order ahead are gone", x.at(1, 0, 0), 0);
        due(25, "no blanks", does(x, "k(10 11)(8 9);"), 1);
        due(25, "10 goes", x.at(2, 10, 0), 11);
        due(25, "a spot in two orders", does(x, "k(0 1);k(0 1);"), 2);
        due(25, "two figures", does(x, "g04;p 00;u00 00 00;"), 3);
        due(25, "blanks ahead, none behind", does(x, "  g4;"), 1);
        due(25, "all twelve", does(x, "k(11 10 9 8 7 6 5 4 3 2 1 0);"), 1);
        due(25, "0 goes to 11", x.at(5, 0, 0), 11);
        CalledSquare y = new CalledSquare();
        StringBuilder most = new StringBuilder("k;");
        for (int i = 0; i < 12; i++) {
            most.append("p0;");
        }
        most.append("g0;".repeat(27)).append(" ");
        due(25, "120 bytes", most.length(), 120);
        due(25, "as many orders as fit", does(y, most.toString()), 40);
        due(25, "given", y.count(6), 27);
    }

    private static void fault(String text, int place) {
        CalledSquare x = withCalls(1);
        long before = x.digest();
        due(25, "'" + text + "'", does(x, text), -10 - place);
        x.clear();
        due(25, "'" + text + "' changed nothing", x.digest() - before, 0);
    }

    private static void doesFaults() {
        fault("", 0);
        fault("    ", 4);
        fault(";", 0);
        fault("x0;", 0);
        fault("K;", 0);
        fault("\u0000", 0);
        fault("\tg0;", 0);
        fault("g0;\n", 3);
        fault("g0; ;", 4);
        fault("k", 1);
        fault("k  ", 3);
        fault("g", 1);
        fault("g0", 2);
        fault("g0 ", 3);
        fault("g0;k", 4);
        fault("g;", 1);
        fault("g 1 2;", 4);
        fault("g 123;", 4);
        fault("g 123", 4);
        fault("g 1234;", 4);
        fault("g12 3;", 4);
        fault("g-1;", 1);
        fault("g(0);", 1);
        fault("gk;", 1);
        fault("u0 1;", 4);
        fault("u0 1 2 3;", 7);
        fault("u0 1 2", 6);
        fault("w0,1,2;", 2);
        fault("d0;", 2);
        fault("d0 1 2;", 5);
        fault("p;", 1);
        fault("k 1;", 2);
        fault("k 123;", 2);
        fault("k);", 1);
        fault("k(", 2);
        fault("k( ", 3);
        fault("k();", 2);
        fault("k(0);", 3);
        fault("k(0 );", 4);
        fault("k(0", 3);
        fault("k(0 1", 5);
        fault("k(0 1;", 5);
        fault("k(0 1 ;", 6);
        fault("k(0(1 2));", 3);
        fault("k(0 1)", 6);
        fault("k(0 1)2;", 6);
        fault("k(0 1))", 6);
        fault("k(0 1)k;", 6);
        fault("k(0 12);", 4);
        fault("k(0 99);", 4);
        fault("k(12", 2);
        fault("k(0 123);", 6);
        fault("k(0 012);", 6);
        fault("k(0 0);", 4);
        fault("k(0 00);", 4);
        fault("k(0 1 0);", 6);
        fault("k(0 1)(2 1);", 9);
        fault("k(0 1)(1 2);", 7);
        fault("k(01);", 4);
        fault("k(0,1);", 3);
        fault("k(0 1)(2);", 8);
        fault("k(0 1 2 3 4 5 6 7 8 9 10 11 0);", 28);
        fault("g9;x", 3);
    }

    private static void refusedOrder(String text, int order) {
        CalledSquare x = withCalls(1);
        x.wants(0, 11, 1);
        x.dancer(4, 0);
        long before = x.digest();
        due(25, "'" + text + "'", does(x, text), -1000 - order);
        x.clear();
        due(25, "'" + text + "' changed nothing", x.digest() - before, 0);
    }

    private static void doesRefusedOrders() {
        refusedOrder("g1;", 0);
        refusedOrder("g0;", 0);
        refusedOrder("k;g1;g0;", 2);
        refusedOrder("p1;", 0);
        refusedOrder("k;p1;p2;", 2);
        refusedOrder("d4 0;", 0);
        refusedOrder("d5 4;", 0);
        refusedOrder("d12 0;", 0);
        refusedOrder("d5 0;d5 1;", 1);
        refusedOrder("k(4 5);g1;d4 0;", 2);
        refusedOrder("u1 0 0;", 0);
        refusedOrder("u0 12 0;", 0);
        refusedOrder("u0 0 4;", 0);
        refusedOrder("w0 0 3;", 0);
        refusedOrder("w99 0 0;", 0);
        refusedOrder("k;k;k;k;k;k;k;k;k;", 7);
        refusedOrder("p0;p0;p0;p0;p0;p0;p0;p0;p0;p0;p0;p0;p0;", 12);
        refusedOrder("d0 0;d1 0;d2 0;d3 0;d5 0;d6 0;d7 0;d8 0;", 7);
        refusedOrder("w0 11 0;g0;w0 4 2;g0;g9;", 3);
        CalledSquare x = new CalledSquare();
        due(25, "what an order ahead made is there", does(x, "k(0 1);d0 0;w0 0 1;g0;u0 1 2;"), 5);
    }

    private static void doesState() {
        CalledSquare x = new CalledSquare();
        due(25, "three orders", does(x, "k;k;k;"), 3);
        due(25, "one state", x.told(4), 1);
        due(25, "back", x.back(), 0);
        due(25, "all three are gone", x.count(1), 0);
        due(25, "again", x.does(), 3);
        for (int i = 0; i < 4; i++) {
            x.plans(0);
        }
        due(25, "full of states", x.told(4), 5);
        due(25, "an order refused", does(x, "p0;p1;p9;"), -1002);
        due(25, "states stay", x.told(4), 5);
        due(25, "plan stays", x.count(5), 4);
        for (int i = 4; i >= 0; i--) {
            due(25, "back", x.back(), i);
        }
        due(25, "the oldest was not lost", x.count(1), 0);
        due(25, "nothing counted", x.told(0) + x.told(1) + x.told(2), 0);
    }

    private static void back() {
        CalledSquare x = new CalledSquare();
        due(26, "none", x.back(), NO);
        x.dancer(0, 0);
        x.dancer(1, 0);
        cycle(x, 0, 5);
        x.turns(0, 0, 1);
        x.gives(0);
        x.plans(0);
        due(26, "five of six", x.told(4), 5);
        due(26, "plan back", x.back(), 4);
        due(26, "plan", x.count(5), 0);
        due(26, "gives back", x.back(), 3);
        due(26, "spot", x.of(0, 0), 0);
        due(26, "given", x.count(6), 0);
        due(26, "turns back", x.back(), 2);
        due(26, "turn", x.at(0, 0, 1), 0);
        due(26, "exchanges back", x.back(), 1);
        due(26, "goes", x.at(0, 0, 0), 0);
        due(26, "a new one between", x.wants(0, 3, 1), 0);
        due(26, "wants back", x.back(), 1);
        due(26, "want", x.at(0, 3, 2), 0);
        due(26, "call back", x.back(), 0);
        due(26, "calls", x.count(1), 0);
        due(26, "no more", x.back(), NO);
        due(26, "older ones lost", x.count(0), 2);
        due(26, "refused NO", x.told(1), 2);

        IntConsumer[] nothingBecomesOther = {
            i -> x.home(), i -> x.scraps(), i -> x.call(), i -> x.turns(0, 0, 0), i -> x.wants(0, 0, 0),
        };
        for (int i = 0; i < nothingBecomesOther.length; i++) {
            nothingBecomesOther[i].accept(i);
            due(26, "leaves a state though nothing becomes other " + i, x.told(4), i + 1);
        }
        x.on(99);
        x.call();
        x.gives(99);
        x.judges();
        x.rows(0, 1);
        x.type(32);
        x.clear();
        due(26, "no state by what is refused or asked", x.back(), 4);
    }

    private static void backFromEach() {
        List<ToIntFunction<CalledSquare>> changes = List.of(
            x -> x.dancer(7, 1), x -> x.call(), x -> x.exchanges(0, 1, 2), x -> x.turns(0, 1, 2),
            x -> x.wants(0, 1, 2), x -> x.joins(0, 1), x -> x.backwards(0), x -> x.gives(1), x -> x.home(),
            x -> x.plans(1), x -> x.scraps(), x -> x.does());
        for (int i = 0; i < changes.size(); i++) {
            CalledSquare x = new CalledSquare();
            does(x, "k(0 1 2);k(0 5)(8 9);u1 0 1;d0 1;d8 2;g0;p0;");
            x.scraps();
            write(x, "p0;w1 11 2;g1;");
            x.plans(0);
            long before = x.digest();
            int answer = changes.get(i).applyAsInt(x);
            due(26, "change " + i + " is not refused", Math.min(answer, 0), 0);
            due(26, "change " + i + " leaves a state", x.told(4), 4);
            due(28, "digest stays behind change " + i, x.digest() == before ? 1 : 0, 0);
            due(26, "back from change " + i, x.back(), 3);
            due(26, "as ahead of change " + i, x.digest() - before, 0);
        }
    }

    private static void backKeepsTextAndRefusals() {
        CalledSquare x = new CalledSquare();
        x.call();
        x.type(107);
        x.gives(5);
        due(26, "back", x.back(), 0);
        due(26, "the text stays", x.told(3), 1);
        due(26, "refusals stay", x.told(0), 1);
        x.call();
        x.clear();
        x.back();
        due(26, "the text stays empty", x.told(3), 0);
    }

    private static void told() {
        CalledSquare x = new CalledSquare();
        x.gives(0);
        x.back();
        for (int i = 0; i < 9; i++) {
            x.call();
        }
        x.type(32);
        x.type(32);
        due(27, "BAD", x.told(0), 1);
        due(27, "NO", x.told(1), 1);
        due(27, "FULL", x.told(2), 1);
        due(27, "bytes", x.told(3), 2);
        due(27, "states", x.told(4), 5);
        due(27, "what 5", x.told(5), BAD);
        due(27, "what -1", x.told(-1), BAD);
        due(27, "BAD then", x.told(0), 3);
    }

    private static long mix(long h, long... values) {
        for (long v : values) {
            h = 31 * h + v;
        }
        return h;
    }

    private static void digest() {
        CalledSquare x = new CalledSquare();
        due(28, "new", x.digest(), mix(2633, 0, 0, 0, 0, 0, 0, 0, 0, 0, 0, 0, 0));
        x.on(12);
        x.type(32);
        x.dancer(2, 1);
        x.dancer(1, 1);
        x.dancer(9, 0);
        cycle(x, 2, 3);
        x.wants(0, 2, 1);
        x.turns(0, 2, 3);
        x.plans(0);
        x.plans(0);
        x.gives(0);
        long h = mix(2633, 1, 0, 0, 1, 5);
        h = mix(h, 3, 1, 2, 0, 0, 2, 1);
        h = mix(h, 3, 0, 2, 1, 0, 1, 0);
        h = mix(h, 1, 1, 1, 1, 1, 0, 0);
        h = mix(h, 9, 0, 9, 0, 1, -1, 0);
        h = mix(h, 0, 0, 0, 1, 0, 0, 3, 3, 1, 2, 0, 0);
        for (int s = 4; s < 12; s++) {
            h = mix(h, s, 0, 0);
        }
        h = mix(h, 0, 2, 8, 1);
        h = mix(h, 0, 0);
        due(28, "with all there is", x.digest(), h);
        due(28, "again", x.digest(), h);
    }

    /** No call may throw for any numbers. */
    private static void wildNumbers() {
        CalledSquare x = withCalls(1);
        x.dancer(0, 0);
        int bad = 0;
        for (int w : WRONG) {
            int[] answers = {
                x.dancer(w, 0), x.dancer(0, w), x.exchanges(w, 0, 1), x.exchanges(0, w, 1), x.exchanges(0, 1, w),
                x.turns(w, 0, 0), x.turns(0, w, 0), x.turns(0, 0, w), x.wants(w, 0, 0), x.wants(0, w, 0),
                x.wants(0, 0, w), x.joins(w, 0), x.joins(0, w), x.backwards(w), x.gives(w), x.of(w, 0), x.of(0, w),
                x.on(w), x.at(w, 0, 0), x.at(0, w, 0), x.at(0, 0, w), x.tells(w, 0), x.tells(0, w),
                x.finds(w, 0, 1), x.finds(0, w, 1), x.finds(0, 0, w), x.found(w, 0, 1, 0), x.found(0, w, 1, 0),
                x.found(0, 0, w, 0), x.rows(w, 0), x.rows(0, w), x.plans(w), x.planned(w, 0), x.planned(0, w),
                x.count(w), x.type(w), x.told(w),
            };
            for (int i = 0; i < answers.length; i++) {
                due(0, "wild number " + w + ", call " + i, answers[i], BAD);
            }
            bad += answers.length;
        }
        due(0, "each counted once", x.told(0), bad);
    }
}
