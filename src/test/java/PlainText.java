import java.util.ArrayList;
import java.util.List;
import java.util.Map;
import java.util.Set;
import java.util.regex.Matcher;
import java.util.regex.Pattern;

/** TEXTS as the document tells them, for PlainRegiment: read token by token; a FAULT is thrown. */
final class PlainText {
    static final class Fault extends Exception {
        private static final long serialVersionUID = 1;
        final int kind;
        final int place;

        Fault(int kind, int place) {
            this.kind = kind;
            this.place = place;
        }
    }

    interface Sum {
        int of(Map<String, Integer> facts);
    }

    interface Condition {
        boolean of(Map<String, Integer> facts);
    }

    record LawLine(String word, Sum sum, Condition when) { }

    private static final Set<String> WORDS = Set.of("creaks", "wears", "rises");
    private static final Set<String> FACTS =
        Set.of("weight", "wear", "loose", "rank", "carpet", "height", "number", "heard", "failed", "stride", "night");
    private static final List<String> ORDERS = List.of("watch", "leave", "desert", "carpet", "bare", "mend", "loosen");

    private final List<String> tokens = new ArrayList<>();
    private final List<Integer> places = new ArrayList<>();
    private final List<Integer> sizes;
    private int at;
    private int open;

    PlainText(String tape, List<Integer> sizes) {
        this.sizes = sizes;
        Matcher m = Pattern.compile("[A-Za-z]+|[0-9]+|[ \n]+|.", Pattern.DOTALL).matcher(tape);
        while (m.find()) {
            if (m.group().charAt(0) != ' ' && m.group().charAt(0) != '\n') {
                tokens.add(m.group());
                places.add(m.start());
            }
        }
        tokens.add("");
        places.add(tape.length());
    }

    private String token() {
        return tokens.get(at);
    }

    private Fault fault(int kind) {
        return new Fault(kind, places.get(at));
    }

    private void take(String word) throws Fault {
        if (!token().equals(word)) {
            throw fault(1);
        }
        at++;
    }

    private int number(int low, int high) throws Fault {
        if (!token().matches("[0-9]{1,4}")) {
            throw fault(1);
        }
        int v = Integer.parseInt(token());
        if (v < low || v > high) {
            throw fault(2);
        }
        at++;
        return v;
    }

    List<LawLine> law() throws Fault {
        List<LawLine> lines = new ArrayList<>();
        while (!token().isEmpty()) {
            String word = token();
            if (!WORDS.contains(word)) {
                throw fault(1);
            }
            if (lines.size() == 16) {
                throw fault(3);
            }
            at++;
            Sum sum = sum();
            Condition when = null;
            if (token().equals("when")) {
                at++;
                when = or();
            }
            take(";");
            lines.add(new LawLine(word, sum, when));
        }
        return lines;
    }

    private Condition or() throws Fault {
        Condition left = and();
        if (!token().equals("or")) {
            return left;
        }
        at++;
        Condition right = or();
        return f -> left.of(f) | right.of(f);
    }

    private Condition and() throws Fault {
        Condition left = one();
        if (!token().equals("and")) {
            return left;
        }
        at++;
        Condition right = and();
        return f -> left.of(f) & right.of(f);
    }

    private Condition one() throws Fault {
        if (token().equals("not") || token().equals("(")) {
            boolean isNot = token().equals("not");
            if (open == 8) {
                throw fault(3);
            }
            open++;
            at++;
            Condition inner;
            if (isNot) {
                Condition c = one();
                inner = f -> !c.of(f);
            } else {
                inner = or();
                take(")");
            }
            open--;
            return inner;
        }
        Sum left = sum();
        String sign = token();
        if (!Set.of("<", "=", ">").contains(sign)) {
            throw fault(1);
        }
        at++;
        Sum right = sum();
        return f -> Integer.compare(left.of(f), right.of(f)) == "<=>".indexOf(sign) - 1;
    }

    private Sum sum() throws Fault {
        Sum sum = product();
        while (token().equals("+") || token().equals("-")) {
            int by = token().equals("+") ? 1 : -1;
            at++;
            Sum left = sum;
            Sum right = product();
            sum = f -> left.of(f) + by * right.of(f);
        }
        return sum;
    }

    private Sum product() throws Fault {
        Sum product = unit();
        while (token().equals("*") || token().equals("/")) {
            boolean isTimes = token().equals("*");
            at++;
            Sum left = product;
            if (isTimes) {
                Sum right = unit();
                product = f -> left.of(f) * right.of(f);
            } else {
                int by = number(1, 9999);
                product = f -> left.of(f) / by;
            }
        }
        return product;
    }

    private Sum unit() throws Fault {
        String word = token();
        if (FACTS.contains(word)) {
            at++;
            return f -> f.get(word);
        }
        int v = number(0, 9999);
        return f -> v;
    }

    List<int[]> lines(int k) throws Fault {
        List<int[]> lines = new ArrayList<>();
        while (!token().isEmpty()) {
            if (token().equals(k == 3 ? "flight" : "on") && lines.size() == 16) {
                throw fault(3);
            }
            lines.add(k == 1 ? order() : k == 2 ? visit() : door());
            take(";");
        }
        return lines;
    }

    private int night() throws Fault {
        take("on");
        return number(0, 999);
    }

    private int flight(String word, int notThis) throws Fault {
        take(word);
        int place = at;
        int flight = number(0, sizes.size() - 1);
        if (flight == notThis) {
            at = place;
            throw fault(2);
        }
        return flight;
    }

    private int step(int flight) throws Fault {
        take("step");
        return number(0, sizes.get(flight) - 1);
    }

    private int[] order() throws Fault {
        int night = night();
        int flight = flight("flight", -1);
        int step = step(flight);
        int what = ORDERS.indexOf(token());
        if (what < 0) {
            throw fault(1);
        }
        at++;
        return new int[] {night, flight, step, what};
    }

    private int[] visit() throws Fault {
        int night = night();
        int flight = flight("flight", -1);
        boolean up = token().equals("up");
        take(up ? "up" : "down");
        take("weight");
        int weight = number(1, 200);
        take("stride");
        return new int[] {night, flight, up ? 1 : 0, weight, number(1, 5)};
    }

    private int[] door() throws Fault {
        int a = flight("flight", -1);
        int s = step(a);
        int b = flight("door", a);
        return new int[] {a, s, b, step(b)};
    }
}
