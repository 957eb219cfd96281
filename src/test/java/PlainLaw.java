import java.util.ArrayList;
import java.util.List;

/** The law's language read word by word: a tree of clauses, or the place of the fault. */
final class PlainLaw {
    interface Sum {
        /** Null if it is broken. */
        Long of(long[] env);
    }

    interface Test {
        /** Null if it is broken. */
        Boolean of(long[] env);
    }

    static final class Clause {
        final String head;
        final Sum sum;
        final Test test;

        Clause(String head, Sum sum, Test test) {
            this.head = head;
            this.sum = sum;
            this.test = test;
        }

        /** What it tells; null if it does not hold. */
        Long ask(long[] env) {
            Boolean so = test.of(env);
            return so == null || !so ? null : sum.of(env);
        }
    }

    private static final class Fault extends RuntimeException {
        private static final long serialVersionUID = 1L;
        final int place;

        Fault(int place) {
            super("", null, false, false);
            this.place = place;
        }
    }

    final List<Clause> clauses = new ArrayList<>();
    int fault = -1;

    private final List<String> tokens = new ArrayList<>();
    private final List<Integer> places = new ArrayList<>();
    private int i = 0;
    private int parts = 0;
    private int open = 0;

    PlainLaw(String text) {
        cut(text);
        try {
            clauses.add(clause());
            while (take(";")) {
                if (clauses.size() == 12) throw wrong();
                clauses.add(clause());
            }
            if (i < tokens.size() - 1) throw wrong();
        } catch (Fault f) {
            fault = f.place;
        }
    }

    private void cut(String text) {
        int p = 0;
        while (p < text.length()) {
            int q = p;
            while (q < text.length() && text.charAt(q) >= 'a' && text.charAt(q) <= 'z') q++;
            if (q == p) while (q < text.length() && text.charAt(q) >= '0' && text.charAt(q) <= '9') q++;
            if (q == p) q++;
            if (text.charAt(p) != ' ') {
                tokens.add(text.substring(p, q));
                places.add(p);
            }
            p = q;
        }
        tokens.add("");
        places.add(text.length());
    }

    private Fault wrong() {
        return new Fault(places.get(i));
    }

    private boolean take(String token) {
        if (!tokens.get(i).equals(token)) return false;
        i++;
        return true;
    }

    private Clause clause() {
        String head = tokens.get(i);
        if (!List.of("noise", "loss", "ear").contains(head)) throw wrong();
        i++;
        Sum sum = sum();
        Test test = take("if") ? test() : env -> true;
        return new Clause(head, sum, test);
    }

    private Test test() {
        Test left = both();
        if (!take("or")) return left;
        Test right = test();
        return env -> {
            Boolean l = left.of(env);
            return l == null ? null : l ? Boolean.TRUE : right.of(env);
        };
    }

    private Test both() {
        Test left = plain();
        if (!take("and")) return left;
        Test right = both();
        return env -> {
            Boolean l = left.of(env);
            return l == null ? null : l ? right.of(env) : Boolean.FALSE;
        };
    }

    private Test plain() {
        if (take("not")) {
            Test inner = plain();
            return env -> {
                Boolean b = inner.of(env);
                return b == null ? null : Boolean.valueOf(!b);
            };
        }
        if (tokens.get(i).equals("(")) {
            if (open == 8) throw wrong();
            open++;
            i++;
            Test inner = test();
            if (!take(")")) throw wrong();
            open--;
            return inner;
        }
        Sum left = sum();
        String sign = tokens.get(i);
        if (!List.of("<", ">", "=").contains(sign)) throw wrong();
        i++;
        Sum right = sum();
        return env -> {
            Long l = left.of(env);
            Long r = right.of(env);
            if (l == null || r == null) return null;
            int way = Long.compare(l, r);
            return sign.equals("<") ? way < 0 : sign.equals(">") ? way > 0 : way == 0;
        };
    }

    private static Long reckon(String op, Long l, Long r) {
        if (l == null || r == null || op.equals("/") && r == 0) return null;
        long n = op.equals("+") ? l + r : op.equals("-") ? l - r : op.equals("*") ? l * r : l / r;
        return Math.abs(n) > 1000000000L ? null : Long.valueOf(n);
    }

    private Sum sum() {
        Sum left = term();
        while (tokens.get(i).equals("+") || tokens.get(i).equals("-")) {
            String op = tokens.get(i++);
            Sum l = left;
            Sum r = term();
            left = env -> reckon(op, l.of(env), r.of(env));
        }
        return left;
    }

    private Sum term() {
        Sum left = part();
        while (tokens.get(i).equals("*") || tokens.get(i).equals("/")) {
            String op = tokens.get(i++);
            Sum l = left;
            Sum r = part();
            left = env -> reckon(op, l.of(env), r.of(env));
        }
        return left;
    }

    private Sum part() {
        String token = tokens.get(i);
        if (token.equals("[")) {
            if (open == 8) throw wrong();
            open++;
            i++;
            Sum inner = sum();
            if (!take("]")) throw wrong();
            open--;
            return inner;
        }
        int word = List.of("speed", "depth", "range", "bell", "boat").indexOf(token);
        boolean number = !token.isEmpty() && token.charAt(0) >= '0' && token.charAt(0) <= '9';
        if (word < 0 && !number || parts == 50) throw wrong();
        if (number && new java.math.BigInteger(token).bitLength() > 20) throw wrong();
        if (number && Long.parseLong(token) > 1000) throw wrong();
        parts++;
        i++;
        if (number) {
            long value = Long.parseLong(token);
            return env -> value;
        }
        return env -> env[word];
    }
}
