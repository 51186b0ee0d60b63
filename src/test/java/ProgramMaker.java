import java.util.ArrayList;
import java.util.HashMap;
import java.util.List;
import java.util.Map;
import java.util.Random;

/** Makes up a program, token by token, together with all that is to be told of it. */
final class ProgramMaker {
    private static final String[] NAMES = {"a", "b", "c", "t", "u", "f", "g", "abcdefgh", "x1"};
    private static final String[] NUMBERS = {"0", "1", "27", "0300", "9999"};
    private static final int MOST_OPEN = 8;

    final List<String> tokens = new ArrayList<>();
    final StringBuilder roles = new StringBuilder();
    final List<Integer> meanings = new ArrayList<>();
    final List<String> types = new ArrayList<>();
    /** Of each declaration: its token, its depth, its sort. */
    final List<int[]> declarations = new ArrayList<>();
    final StringBuilder form = new StringBuilder();

    private final Random random;
    private final List<Map<String, Integer>> scopes = new ArrayList<>();
    private int nameToken;
    private boolean takesElse;

    ProgramMaker(Random random) {
        this.random = random;
        scopes.add(new HashMap<>());
        int items = 1 + random.nextInt(5);
        for (int i = 0; i < items; i++) {
            if (chance(40)) {
                function();
            } else {
                form.append(declaration(MOST_OPEN));
            }
        }
    }

    private boolean chance(int percent) {
        return random.nextInt(100) < percent;
    }

    private String oneOf(String... choices) {
        return choices[random.nextInt(choices.length)];
    }

    private void put(String token) {
        put(token, 0, -1);
    }

    private void put(String token, int role, int meaning) {
        tokens.add(token);
        roles.append(role);
        meanings.add(meaning);
    }

    private int meaning(String name) {
        for (int i = scopes.size() - 1; i >= 0; i--) {
            Integer k = scopes.get(i).get(name);
            if (k != null) {
                return k;
            }
        }
        return -1;
    }

    /** A name that means a type or, if not, a thing; null when there is none. */
    private String known(boolean type) {
        List<String> fitting = new ArrayList<>();
        for (String name : NAMES) {
            int k = meaning(name);
            if (k >= 0 && (declarations.get(k)[2] == 1) == type) {
                fitting.add(name);
            }
        }
        return fitting.isEmpty() ? null : fitting.get(random.nextInt(fitting.size()));
    }

    private String base() {
        String name = chance(60) ? known(true) : null;
        if (name != null) {
            put(name, 1, meaning(name));
            return meaning(name) + ".";
        }
        String word = oneOf("int", "char", "void");
        put(word);
        return word.substring(0, 1);
    }

    private void declare(int token, String type, boolean asType) {
        int k = types.size();
        int sort = asType ? 1 : type.startsWith("(") ? 2 : 0;
        declarations.add(new int[] {token, scopes.size(), sort});
        types.add(type);
        scopes.get(scopes.size() - 1).put(tokens.get(token), k);
        roles.setCharAt(token, asType ? '3' : '4');
        meanings.set(token, k);
    }

    private void putNewName() {
        String name = NAMES[random.nextInt(NAMES.length)];
        for (int i = 0; scopes.get(scopes.size() - 1).containsKey(name); i++) {
            name = "n" + i;
        }
        nameToken = tokens.size();
        put(name);
    }

    /** Answers what applies to the name, in order; the name's token is left in nameToken, or -1. */
    private String declarator(int namePercent, boolean mustBeGroup, boolean inGroup, int open) {
        int stars = chance(40) ? 1 + random.nextInt(2) : 0;
        // So that the bracket is that of a group, whatever the name means.
        if (inGroup && !mustBeGroup && stars == 0) {
            stars = 1;
        }
        for (int i = 0; i < stars; i++) {
            put("*");
        }
        String applied = "";
        int name = -1;
        if (open > 0 && chance(20)) {
            put("(");
            applied = declarator(namePercent, mustBeGroup, true, open - 1);
            name = nameToken;
            put(")");
        } else if (chance(namePercent)) {
            putNewName();
            name = nameToken;
        }
        StringBuilder pieces = new StringBuilder(applied);
        for (int i = 0; i < 2 && open > 0 && chance(30); i++) {
            pieces.append(chance(50) ? dimension() : parameters(open - 1, new HashMap<>()));
        }
        nameToken = name;
        return pieces.append("*".repeat(stars)).toString();
    }

    private String dimension() {
        String number = chance(70) ? oneOf(NUMBERS) : "";
        put("[");
        if (!number.isEmpty()) {
            put(number);
        }
        put("]");
        return "[" + number + "]";
    }

    private String parameters(int open, Map<String, Integer> scope) {
        put("(");
        scopes.add(scope);
        StringBuilder out = new StringBuilder("(");
        int count = random.nextInt(4);
        if (count == 0 && chance(50)) {
            put("void");
        }
        for (int i = 0; i < count; i++) {
            if (i > 0) {
                put(",");
                out.append(',');
            }
            // A lone void would be no parameter.
            String base = base();
            String type = declarator(base.equals("v") ? 100 : 70, false, false, open) + base;
            if (nameToken >= 0) {
                declare(nameToken, type, false);
            }
            out.append(type);
        }
        scopes.remove(scopes.size() - 1);
        put(")");
        return out.append(')').toString();
    }

    private void function() {
        String base = base();
        boolean star = chance(30);
        boolean group = chance(20);
        if (star) {
            put("*");
        }
        if (group) {
            put("(");
        }
        putNewName();
        int name = nameToken;
        if (group) {
            put(")");
        }
        Map<String, Integer> scope = new HashMap<>();
        String type = parameters(MOST_OPEN - 1, scope) + (star ? "*" : "") + base;
        declare(name, type, false);
        form.append(tokens.get(name)).append(':').append(type).append(block(MOST_OPEN, scope));
    }

    private String declaration(int open) {
        boolean asType = chance(30);
        boolean before = chance(60);
        if (asType && before) {
            put("typedef");
        }
        String base = base();
        if (asType && !before) {
            put("typedef");
        }
        StringBuilder out = new StringBuilder();
        int count = chance(5) ? 0 : 1 + random.nextInt(2);
        for (int i = 0; i < count; i++) {
            if (i > 0) {
                put(",");
            }
            String type = declarator(100, true, false, open) + base;
            declare(nameToken, type, asType);
            out.append(asType ? "#" : "").append(tokens.get(nameToken)).append(':').append(type);
            if (chance(40)) {
                put("=");
                out.append(expression(open)).append('=');
            }
            out.append(';');
        }
        put(";");
        return out.toString();
    }

    private String block(int open, Map<String, Integer> scope) {
        put("{");
        scopes.add(scope);
        StringBuilder out = new StringBuilder("{");
        int items = random.nextInt(4);
        for (int i = 0; i < items; i++) {
            out.append(chance(35) ? declaration(open - 1) : statement(open - 1));
        }
        scopes.remove(scopes.size() - 1);
        put("}");
        return out.append('}').toString();
    }

    /** Leaves in takesElse whether an 'else' behind it would go to an 'if' in it. */
    private String statement(int open) {
        int kind = random.nextInt(10);
        if (kind < 3 && open >= 2) {
            return conditional(kind == 0, open);
        }
        String out;
        if (kind == 3 && open >= 1) {
            out = block(open, new HashMap<>());
        } else if (kind == 4) {
            put(";");
            out = ";";
        } else if (kind == 5) {
            put("return");
            out = (chance(60) ? expression(open) : "") + "^";
            put(";");
        } else {
            out = expression(open) + ";";
            put(";");
        }
        takesElse = false;
        return out;
    }

    private String conditional(boolean loop, int open) {
        put(loop ? "while" : "if");
        put("(");
        String out = expression(open - 2) + (loop ? "%" : "?");
        put(")");
        out += statement(open - 1);
        if (!loop && !takesElse && chance(60)) {
            put("else");
            return out + ":" + statement(open - 1);
        }
        takesElse |= !loop;
        return out;
    }

    private String expression(int open) {
        if (chance(20)) {
            String place = place(open);
            put("=");
            return place + expression(open) + "=";
        }
        String left = sum(open);
        if (chance(15)) {
            put("<");
            return left + sum(open) + "<";
        }
        return left;
    }

    private String place(int open) {
        if (chance(40)) {
            put("*");
            return cast(open) + "@";
        }
        String thing = known(false);
        if (thing != null && chance(60)) {
            put(thing, 2, meaning(thing));
            return thing + " ";
        }
        if (open == 0) {
            put("*");
            put("1");
            return "1 @";
        }
        return primary(open) + suffix(open);
    }

    private String sum(int open) {
        StringBuilder out = new StringBuilder(product(open));
        while (chance(15)) {
            String sign = oneOf("+", "-");
            put(sign);
            out.append(product(open)).append(sign);
        }
        return out.toString();
    }

    private String product(int open) {
        StringBuilder out = new StringBuilder(cast(open));
        while (chance(15)) {
            String sign = oneOf("*", "/");
            put(sign);
            out.append(cast(open)).append(sign);
        }
        return out.toString();
    }

    private String cast(int open) {
        if (open > 0 && chance(12)) {
            String type = typename(open);
            return cast(open) + type;
        }
        return unary(open);
    }

    private String typename(int open) {
        put("(");
        String base = base();
        String type = declarator(0, false, false, open - 1) + base;
        put(")");
        return "[" + type + "]";
    }

    private String unary(int open) {
        if (chance(20)) {
            int sign = random.nextInt(4);
            put("-*&!".substring(sign, sign + 1));
            return cast(open) + "~@&!".charAt(sign);
        }
        if (chance(8)) {
            put("sizeof");
            return (open > 0 && chance(50) ? typename(open) : unary(open)) + "$";
        }
        StringBuilder out = new StringBuilder(primary(open));
        while (open > 0 && chance(20)) {
            out.append(suffix(open));
        }
        return out.toString();
    }

    private String primary(int open) {
        String thing = known(false);
        if (thing != null && chance(65)) {
            put(thing, 2, meaning(thing));
            return thing + " ";
        }
        if (open > 0 && chance(25)) {
            put("(");
            String inner = expression(open - 1);
            put(")");
            return inner;
        }
        String number = oneOf(NUMBERS);
        put(number);
        return number + " ";
    }

    private String suffix(int open) {
        if (chance(50)) {
            put("[");
            String index = expression(open - 1);
            put("]");
            return index + "]";
        }
        put("(");
        StringBuilder out = new StringBuilder();
        int count = random.nextInt(4);
        for (int i = 0; i < count; i++) {
            if (i > 0) {
                put(",");
            }
            out.append(expression(open - 1));
        }
        put(")");
        return out.append('(').append(count).append(')').toString();
    }
}
