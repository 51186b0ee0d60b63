import java.util.Objects;
import java.util.concurrent.Callable;
import java.util.regex.Pattern;

/** What the tests share: objects with a text, answers as strings, and the count of wrong ones. */
final class Check {
    private static final Pattern TOKEN =
        Pattern.compile("[a-z][a-z0-9]{0,7}|[0-9]{1,4}|[^ \n]");

    private static int wrong = 0;

    private Check() {
    }

    static void due(String call, Object got, Object want) {
        if (!Objects.equals(got, want)) {
            wrong++;
            System.out.println(call + " answered " + got + ", due is " + want);
        }
    }

    static void throwsDue(String call, Class<?> want, Callable<?> body) {
        try {
            Object got = body.call();
            due(call, got, want.getSimpleName());
        } catch (Exception e) {
            due(call + " throws", e.getClass(), want);
        }
    }

    static void outOfBounds(String call, Callable<?> body) {
        throwsDue(call, IndexOutOfBoundsException.class, body);
    }

    static void end() {
        System.out.println(wrong == 0 ? "all answers are as due" : wrong + " answers are not as due");
        if (wrong != 0) {
            System.exit(1);
        }
    }

    /** Appends a text to that of an object, eight characters a call. */
    static boolean append(TypeOrThing x, String text) {
        boolean all = true;
        for (int i = 0; i < text.length(); i += 8) {
            int n = Math.min(8, text.length() - i);
            long w = 0;
            for (int j = 0; j < n; j++) {
                w |= (long) text.charAt(i + j) << 8 * j;
            }
            all &= x.type(w, n);
        }
        return all;
    }

    static TypeOrThing typed(String text) {
        TypeOrThing x = new TypeOrThing();
        due("typing " + text, append(x, text), true);
        return x;
    }

    /** An object that has read a program. */
    static TypeOrThing read(String program) {
        TypeOrThing x = typed(program);
        due("AT of " + program, readAt(x), TypeOrThing.NONE);
        return x;
    }

    /** AT of an object's text, NONE when it is a program. */
    static int readAt(TypeOrThing x) {
        try {
            x.read();
        } catch (IllegalArgumentException e) {
            return x.at();
        }
        due("at() behind a read() that does not throw", x.at(), TypeOrThing.NONE);
        return TypeOrThing.NONE;
    }

    static void atDue(String text, int want) {
        due("AT of " + text, readAt(typed(text)), want);
    }

    static int countTokens(String text) {
        return (int) TOKEN.matcher(text).results().count();
    }

    /** A text that is none; the first '@' in it is no part of it, but stands before the token AT. */
    static void refused(String marked) {
        int mark = marked.indexOf('@');
        String before = marked.substring(0, mark);
        atDue(before + marked.substring(mark + 1), countTokens(before));
    }

    static void program(String text) {
        TypeOrThing x = read(text);
        int tokens = -1;
        try {
            tokens = x.read();
        } catch (IllegalArgumentException e) {
            due("read() again of " + text, "throws", "no exception");
        }
        due("read() of " + text, tokens, countTokens(text));
        due("role behind the last token of " + text, x.role(tokens), -1);
    }

    static void formDue(String program, String want) {
        due("the form of " + program, form(read(program)), want);
    }

    static void typesDue(String program, String want) {
        due("the types of " + program, types(read(program)), want);
    }

    static void partsDue(String program, int part, String want) {
        due("part " + part + " of " + program, parts(read(program), part), want);
    }

    static String form(TypeOrThing x) {
        StringBuilder out = new StringBuilder();
        int length = x.length();
        for (int i = 0; i < length; i++) {
            out.append((char) x.form(i));
        }
        return out.toString();
    }

    static String type(TypeOrThing x, int k) {
        StringBuilder out = new StringBuilder();
        int length = x.about(k, 2);
        for (int i = 0; i < length; i++) {
            out.append((char) x.typeAt(k, i));
        }
        return out.toString();
    }

    /** The types of all declarations, with a space between. */
    static String types(TypeOrThing x) {
        StringBuilder out = new StringBuilder();
        for (int k = 0; k < x.declared(); k++) {
            out.append(k == 0 ? "" : " ").append(type(x, k));
        }
        return out.toString();
    }

    /** One part of all declarations, with a space between. */
    static String parts(TypeOrThing x, int part) {
        StringBuilder out = new StringBuilder();
        for (int k = 0; k < x.declared(); k++) {
            out.append(k == 0 ? "" : " ").append(x.about(k, part));
        }
        return out.toString();
    }

    static String roles(TypeOrThing x, int tokens) {
        StringBuilder out = new StringBuilder();
        for (int i = 0; i < tokens; i++) {
            out.append(x.role(i));
        }
        return out.toString();
    }

    /** The meanings of all tokens, '-' for NONE, the others below 10. */
    static String meanings(TypeOrThing x, int tokens) {
        StringBuilder out = new StringBuilder();
        for (int i = 0; i < tokens; i++) {
            int meaning = x.meaning(i);
            out.append(meaning == TypeOrThing.NONE ? "-" : String.valueOf(meaning));
        }
        return out.toString();
    }
}
