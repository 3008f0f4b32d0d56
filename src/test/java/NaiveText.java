import java.util.ArrayList;
import java.util.HashSet;
import java.util.List;
import java.util.Set;

/**
 * The text cut into tokens first, and the tokens held against what may stand next:
 * another way than CalledSquare's reader goes.
 */
final class NaiveText {
    static final int NONE = -1;

    record Order(char kind, List<Integer> numbers, List<List<Integer>> cycles) {
    }

    /** sign '0': a number; third: the place of its third figure, or NONE. */
    private record Token(char sign, int place, int value, int third) {
    }

    final List<Order> orders = new ArrayList<>();
    int fault = NONE;

    private final List<Token> tokens = new ArrayList<>();

    NaiveText(String text) {
        cut(text);
        tokens.add(new Token((char) 255, text.length(), 0, NONE));
        read();
    }

    private void cut(String text) {
        for (int i = 0; i < text.length(); i++) {
            char sign = text.charAt(i);
            if (!Character.isDigit(sign)) {
                if (sign != ' ') {
                    tokens.add(new Token(sign, i, 0, NONE));
                }
                continue;
            }
            int end = i;
            while (end < text.length() && Character.isDigit(text.charAt(end))) {
                end++;
            }
            int value = Integer.parseInt(text.substring(i, Math.min(end, i + 2)));
            tokens.add(new Token('0', i, value, end - i > 2 ? i + 2 : NONE));
            i = end - 1;
        }
    }

    private void read() {
        char kind = 0;
        List<Integer> numbers = null;
        List<List<Integer>> cycles = null;
        List<Integer> cycle = null;
        Set<Integer> told = new HashSet<>();
        for (int i = 0; i < tokens.size(); i++) {
            Token t = tokens.get(i);
            boolean last = i == tokens.size() - 1;
            if (kind == 0) {
                if (last && i > 0) {
                    return;
                }
                if (last || "kuwdgp".indexOf(t.sign) < 0) {
                    fault = t.place;
                    return;
                }
                kind = t.sign;
                numbers = new ArrayList<>();
                cycles = new ArrayList<>();
                told.clear();
                continue;
            }
            int wanted = kind == 'k' ? 0 : kind == 'u' || kind == 'w' ? 3 : kind == 'd' ? 2 : 1;
            boolean numberMayStand = kind == 'k' ? cycle != null : numbers.size() < wanted;
            if (t.sign == '0' && numberMayStand) {
                if (t.third != NONE) {
                    fault = t.third;
                    return;
                }
                if (cycle == null) {
                    numbers.add(t.value);
                } else if (t.value < 12 && told.add(t.value)) {
                    cycle.add(t.value);
                } else {
                    fault = t.place;
                    return;
                }
            } else if (t.sign == '(' && kind == 'k' && cycle == null) {
                cycle = new ArrayList<>();
            } else if (t.sign == ')' && cycle != null && cycle.size() >= 2) {
                cycles.add(cycle);
                cycle = null;
            } else if (t.sign == ';' && cycle == null && numbers.size() == wanted) {
                orders.add(new Order(kind, numbers, cycles));
                kind = 0;
            } else {
                fault = t.place;
                return;
            }
        }
    }
}
