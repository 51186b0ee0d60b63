import java.util.ArrayList;
import java.util.List;
import java.util.Random;

/** Promises 4 to 12 on programs that are made up together with their answers. */
public final class GeneratedTest {
    private static final int PROGRAMS = 3000;

    public static void main(String[] args) {
        Random random = new Random(20);
        for (int made = 0; made < PROGRAMS;) {
            ProgramMaker maker = new ProgramMaker(random);
            String text = spelled(maker.tokens, random);
            if (text.length() <= 160) {
                told(maker, text);
                prefixesFit(maker.tokens);
                made++;
            }
        }
        Check.end();
    }

    private static String spelled(List<String> tokens, Random random) {
        StringBuilder out = new StringBuilder();
        for (String token : tokens) {
            boolean wordBefore = out.length() > 0 && Character.isLetterOrDigit(out.charAt(out.length() - 1));
            if (wordBefore && Character.isLetterOrDigit(token.charAt(0)) || random.nextInt(20) == 0) {
                out.append(random.nextInt(4) == 0 ? '\n' : ' ');
            }
            out.append(token);
        }
        return out.toString();
    }

    /** Every look at the program is at a new object, as one is only good for 512 calls. */
    private static void told(ProgramMaker maker, String text) {
        int count = maker.tokens.size();
        Check.due("read() of " + text, Check.read(text).read(), count);
        Check.due("the roles of " + text, Check.roles(Check.read(text), count), maker.roles.toString());
        Check.due("the meanings of " + text, meanings(Check.read(text), count), maker.meanings);
        Check.due("the types of " + text, Check.types(Check.read(text)), String.join(" ", maker.types));
        Check.due("the form of " + text, Check.form(Check.read(text)), maker.form.toString());
        declarations(maker, Check.read(text), text);
    }

    private static List<Integer> meanings(TypeOrThing x, int count) {
        List<Integer> meanings = new ArrayList<>();
        for (int i = 0; i < count; i++) {
            meanings.add(x.meaning(i));
        }
        return meanings;
    }

    private static void declarations(ProgramMaker maker, TypeOrThing x, String text) {
        Check.due("length() of " + text, x.length(), maker.form.length());
        Check.due("declared() of " + text, x.declared(), maker.types.size());
        for (int k = 0; k < Math.min(x.declared(), maker.types.size()); k++) {
            int[] declaration = maker.declarations.get(k);
            Check.due("about(" + k + ", 0) of " + text, x.about(k, 0), declaration[0]);
            Check.due("about(" + k + ", 1) of " + text, x.about(k, 1), declaration[1]);
            Check.due("about(" + k + ", 2) of " + text, x.about(k, 2), maker.types.get(k).length());
            Check.due("about(" + k + ", 3) of " + text, x.about(k, 3), declaration[2]);
        }
    }

    /** What a program begins with fits: only what comes behind it can be refused. */
    private static void prefixesFit(List<String> tokens) {
        StringBuilder prefix = new StringBuilder();
        for (int i = 0; i < tokens.size(); i++) {
            String text = prefix.toString();
            if (text.length() < 160) {
                Check.atDue(text + "$", i);
            }
            if (text.length() <= 160) {
                int at = Check.readAt(Check.typed(text));
                Check.due("AT of " + text, at == TypeOrThing.NONE ? i : at, i);
            }
            prefix.append(i == 0 ? "" : " ").append(tokens.get(i));
        }
    }
}
