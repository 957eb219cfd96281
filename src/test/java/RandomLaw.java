import java.util.Random;

/** Texts that are laws, and such as are almost. */
final class RandomLaw {
    private final Random random;
    private final StringBuilder out = new StringBuilder();

    private RandomLaw(Random random) {
        this.random = random;
    }

    static String text(Random random) {
        RandomLaw law = new RandomLaw(random);
        int clauses = 1 + random.nextInt(random.nextInt(12) == 0 ? 13 : 4);
        for (int i = 0; i < clauses; i++) {
            if (i > 0) law.say(";");
            law.clause();
        }
        String made = law.out.toString();
        if (random.nextInt(3) == 0) made = law.spoil(made);
        return made.length() > 400 ? made.substring(0, 400) : made;
    }

    private void say(String... choices) {
        String chosen = choices[random.nextInt(choices.length)];
        // Letters need a blank between them, others don't.
        char last = out.length() == 0 ? ';' : out.charAt(out.length() - 1);
        boolean letters = Character.isLetter(last) && Character.isLetter(chosen.charAt(0));
        boolean digits = Character.isDigit(last) && Character.isDigit(chosen.charAt(0));
        if (letters || digits || random.nextInt(3) == 0) out.append(' ');
        out.append(chosen);
    }

    private void clause() {
        say("noise", "loss", "ear");
        sum(random.nextInt(3));
        if (random.nextBoolean()) {
            say("if");
            test(random.nextInt(3));
        }
    }

    private void test(int depth) {
        both(depth);
        while (random.nextInt(4) == 0) {
            say("or");
            both(depth);
        }
    }

    private void both(int depth) {
        plain(depth);
        while (random.nextInt(4) == 0) {
            say("and");
            plain(depth);
        }
    }

    private void plain(int depth) {
        while (random.nextInt(4) == 0) say("not");
        if (depth > 0 && random.nextBoolean()) {
            say("(");
            test(depth - 1);
            say(")");
        } else {
            sum(depth);
            say("<", ">", "=");
            sum(depth);
        }
    }

    private void sum(int depth) {
        term(depth);
        while (random.nextInt(3) == 0) {
            say("+", "-");
            term(depth);
        }
    }

    private void term(int depth) {
        part(depth);
        while (random.nextInt(4) == 0) {
            say("*", "/");
            part(depth);
        }
    }

    private void part(int depth) {
        if (depth > 0 && random.nextInt(4) == 0) {
            say("[");
            sum(depth - 1);
            say("]");
        } else if (random.nextBoolean()) {
            say("speed", "depth", "range", "bell", "boat");
        } else {
            String number = String.valueOf(random.nextInt(random.nextInt(5) == 0 ? 1003 : 30));
            say(number);
        }
    }

    private String spoil(String text) {
        StringBuilder spoilt = new StringBuilder(text);
        String signs = " ;+-*/<>=()[]ifnotandorbell0159&AZ\u0000\u00ff";
        int times = 1 + random.nextInt(3);
        for (int i = 0; i < times && spoilt.length() > 0; i++) {
            int place = random.nextInt(spoilt.length());
            switch (random.nextInt(4)) {
                case 0: spoilt.deleteCharAt(place); break;
                case 1: spoilt.insert(place, signs.charAt(random.nextInt(signs.length()))); break;
                case 2: spoilt.setCharAt(place, signs.charAt(random.nextInt(signs.length()))); break;
                default: spoilt.setLength(place); break;
            }
        }
        return spoilt.toString();
    }
}
