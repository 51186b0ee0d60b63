import java.util.HashSet;
import java.util.List;
import java.util.Set;

/**
 * Promise 4 at every place of the grammar: behind each beginning just the tokens fit that some
 * program goes on with; each other one is AT. There, t means a type, a means a thing (both are
 * declared in the outermost scope), and n means nothing.
 */
public final class NextTokenTest {
    private static final String DECLARED = "typedef int t;int a;";
    private static final String END = "END";
    private static final List<String> ALL = words("typedef int char void if else while return sizeof"
        + " t a n 1 ( ) [ ] { } ; , * = + - / < & ! $ END");

    private static final String BASE = " int char void t ";
    private static final String SUFFIX = " [ ( ";
    private static final String AFTER_DECLARATOR = SUFFIX + "= , ;";
    private static final String OPERAND = " a 1 ( sizeof - * & ! ";
    private static final String OPERATOR = " + - * / ";
    private static final String AFTER_OPERAND = OPERATOR + SUFFIX;
    private static final String STATEMENT = OPERAND + "{ ; if while return ";
    private static final String IN_BLOCK = STATEMENT + BASE + "typedef } ";
    private static final String NOTHING = "";
    private static final String OPENERS = "( [ { if while else";

    public static void main(String[] args) {
        outermost();
        declarators();
        functions();
        parameters();
        groupsInParameters();
        initializers();
        places();
        prefixes();
        indexesAndCalls();
        casts();
        sizeofs();
        blocks();
        declarationsInBlocks();
        choices();
        loopsAndReturns();
        eightOpen();
        sevenOpen();
        eightOpenStatements();
        Check.end();
    }

    private static List<String> words(String text) {
        return text.isBlank() ? List.of() : List.of(text.trim().split(" +"));
    }

    private static String without(String fitting, String others) {
        Set<String> left = new HashSet<>(words(fitting));
        left.removeAll(words(others));
        return String.join(" ", left);
    }

    /** Just these tokens fit behind a beginning that is none itself, unless the END is among them. */
    private static void next(String beginning, String fitting) {
        String before = DECLARED + beginning;
        int number = Check.countTokens(before);
        Set<String> fits = new HashSet<>(words(fitting));
        Check.due("tokens of the list for " + beginning, ALL.containsAll(fits), true);
        for (String token : ALL) {
            String text = token.equals(END) ? before : before + " " + token;
            int at = Check.readAt(Check.typed(text));
            boolean fitted = at == TypeOrThing.NONE || !token.equals(END) && at == number + 1;
            Check.due("whether " + token + " fits behind " + before, fitted, fits.contains(token));
            if (!fits.contains(token)) {
                Check.due("AT of " + text, at, number);
            }
        }
    }

    private static void outermost() {
        String item = BASE + "typedef END";
        next("", item);
        next("int;", item);
        next("int b;", item);
        next("int f(){}", item);
        next("typedef", BASE);
        next("int", "typedef n * ( ;");
        next("t", "typedef n * ( ;");
        next("typedef int", "n * ( ;");
        next("int typedef", "n * ( ;");
        next("typedef t", "n * ( ;");
        next("t typedef", "n * ( ;");
    }

    private static void declarators() {
        next("int*", "n * (");
        next("int(", "n * (");
        next("int(*", "n * (");
        next("int((", "n * (");
        next("int b", AFTER_DECLARATOR);
        next("typedef int b", AFTER_DECLARATOR);
        next("int*b", AFTER_DECLARATOR);
        next("int(b", SUFFIX + ")");
        next("int(*b", SUFFIX + ")");
        next("int(b)", AFTER_DECLARATOR);
        next("int(b[1]", SUFFIX + ")");
        next("int(b[1])", AFTER_DECLARATOR);
        next("int b[", "1 ]");
        next("int b[1", "]");
        next("int b[]", AFTER_DECLARATOR);
        next("int b[1]", AFTER_DECLARATOR);
        next("int b,", "n * (");
        next("int b,c", AFTER_DECLARATOR);
        next("int b(),c", AFTER_DECLARATOR);
    }

    private static void functions() {
        String afterFunction = AFTER_DECLARATOR + " {";
        next("int f()", afterFunction);
        next("int*f()", afterFunction);
        next("t f(t)", afterFunction);
        next("int(f)()", afterFunction);
        next("int(*f())()", afterFunction);
        next("int f()()", afterFunction);
        next("int f()[1]", afterFunction);
        next("int(f()", SUFFIX + ")");
        next("int(f())", afterFunction);
        next("typedef int f()", AFTER_DECLARATOR);
        next("int typedef f()", AFTER_DECLARATOR);
        next("int(*f)()", AFTER_DECLARATOR);
        next("int f[1]()", AFTER_DECLARATOR);
        next("int(f[1])()", AFTER_DECLARATOR);
        next("int b,f()", AFTER_DECLARATOR);
        next("int f(),g()", AFTER_DECLARATOR);
        next("int f()=1", AFTER_OPERAND + "< , ;");
    }

    private static void parameters() {
        String afterBase = "t a n * ( [ , )";
        String afterName = SUFFIX + ", )";
        next("int f(", BASE + ")");
        next("int f(void", afterBase);
        next("int f(int", afterBase);
        next("int f(t", afterBase);
        next("int f(int*", afterBase);
        next("int f(void*", afterBase);
        next("int f(void)", AFTER_DECLARATOR + " {");
        next("int f(int b", afterName);
        next("int f(int t", afterName);
        next("int f(int*b", afterName);
        next("int f(int b[", "1 ]");
        next("int f(int b[1", "]");
        next("int f(int b[1]", afterName);
        next("int f(int[", "1 ]");
        next("int f(int[]", afterName);
        next("int f(int()", afterName);
        next("int f(int b(", BASE + ")");
        next("int f(int b(void", afterBase);
        next("int f(int b(void)", afterName);
        next("int f(int,", BASE);
        next("int f(void,", BASE);
        next("int f(int n,int", "t a * ( [ , )");
        next("int f(int t,", "int char void");
        next("int f(int t,int", "a n * ( [ , )");
        next("int f(int a(int n),int", "t n * ( [ , )");
    }

    private static void groupsInParameters() {
        String afterBracket = "* ( [ a n )" + BASE;
        String inGroup = "t a n * ( [ )";
        String afterName = SUFFIX + ", )";
        next("int f(int(", afterBracket);
        next("int f(int*(", afterBracket);
        next("int f(int((", afterBracket);
        next("int f(int(*(", afterBracket);
        next("int f(int(*", inGroup);
        next("int f(int((*", inGroup);
        next("int f(int(*)", afterName);
        next("int f(int(*)(", BASE + ")");
        next("int f(int(n", SUFFIX + ")");
        next("int f(int(n)", afterName);
        next("int f(int(n)(", BASE + ")");
        next("int f(int(a", SUFFIX + ")");
        next("int f(int(*t", SUFFIX + ")");
        next("int f(int([", "1 ]");
        next("int f(int([]", SUFFIX + ")");
        next("int f(int([])", afterName);
        next("int f(int(()", SUFFIX + ")");
        next("int f(int(())", afterName);
        next("int f(int(t", "t a n * ( [ , )");
        next("int f(int(t)", afterName);
        next("int f(int(int)", afterName);
        // What a parameter has declared means a thing to those behind it.
        next("int f(int t,int(", "* ( [ a n ) int char void");
        next("int f(int n,int(", "* ( [ a )" + BASE);
    }

    private static void initializers() {
        next("int b=", OPERAND);
        next("int b=1", AFTER_OPERAND + "< , ;");
        next("int b=a", AFTER_OPERAND + "< = , ;");
        next("int b=1,", "n * (");
        next("int b=a+", OPERAND);
        next("int b=a-", OPERAND);
        next("int b=a*", OPERAND);
        next("int b=a/", OPERAND);
        next("int b=a+a", AFTER_OPERAND + "< , ;");
        next("int b=a*a", AFTER_OPERAND + "< , ;");
        next("int b=a<", OPERAND);
        next("int b=a<a", AFTER_OPERAND + ", ;");
        next("int b=a<a+a", AFTER_OPERAND + ", ;");
        next("int b=a=", OPERAND);
        next("int b=a=a", AFTER_OPERAND + "< = , ;");
        next("int b=a=1", AFTER_OPERAND + "< , ;");
        next("int b=a=a<a", AFTER_OPERAND + ", ;");
        next("int b=(", OPERAND + BASE);
        next("int b=(1", AFTER_OPERAND + "< )");
        next("int b=(a", AFTER_OPERAND + "< = )");
        next("int b=(a<a", AFTER_OPERAND + ")");
        next("int b=(a=a", AFTER_OPERAND + "< = )");
        next("int b=(a)", AFTER_OPERAND + "< , ;");
        next("typedef int b=", OPERAND);
    }

    private static void places() {
        String afterPlace = AFTER_OPERAND + "< = ;";
        String afterOther = AFTER_OPERAND + "< ;";
        for (String place : new String[] {"a", "*a", "*1", "*(a)", "**a", "*-a", "*(t)a", "*sizeof a", "a[1]", "a()",
                "1[1]", "1()", "(a)[1]", "(1)()", "a[1]()", "*a[1]", "a=*a"}) {
            next("int f(){" + place, afterPlace);
        }
        for (String other : new String[] {"1", "(a)", "((a))", "(*a)", "(a[1])", "-a", "&a", "!a", "-*a", "(t)a",
                "(t)*a", "sizeof a", "sizeof*a", "a+a", "a*a", "*a*a", "*a+a", "1+*a", "a/a[1]", "a=a+a"}) {
            next("int f(){" + other, afterOther);
        }
        next("int f(){*sizeof(t)", OPERATOR + "< = ;");
        next("int f(){a<*a", AFTER_OPERAND + ";");
    }

    private static void prefixes() {
        for (String sign : new String[] {"-", "*", "&", "!", "--", "-*&!", "a- -"}) {
            next("int b=" + sign, OPERAND);
            next("int b=" + sign + "(", OPERAND + BASE);
        }
    }

    private static void indexesAndCalls() {
        next("int b=a[", OPERAND);
        next("int b=a[a", AFTER_OPERAND + "< = ]");
        next("int b=a[1", AFTER_OPERAND + "< ]");
        next("int b=a[a<a", AFTER_OPERAND + "]");
        next("int b=a[1]", AFTER_OPERAND + "< = , ;");
        next("int b=a(", OPERAND + ")");
        next("int b=a()", AFTER_OPERAND + "< = , ;");
        next("int b=a(a", AFTER_OPERAND + "< = , )");
        next("int b=a(1", AFTER_OPERAND + "< , )");
        next("int b=a(a,", OPERAND);
        next("int b=a(a,a", AFTER_OPERAND + "< = , )");
        next("int b=a(a,a)", AFTER_OPERAND + "< = , ;");
    }

    private static void casts() {
        String inAbstract = "* ( [ )";
        for (String before : new String[] {"int b=(", "int b=-(", "int b=sizeof(", "int b=a+(", "int b=(("}) {
            next(before + "t", inAbstract);
            next(before + "int", inAbstract);
            next(before + "void", inAbstract);
            next(before + "t*", inAbstract);
            next(before + "t[", "1 ]");
            next(before + "t[]", SUFFIX + ")");
            next(before + "t(", "* ( [ )" + BASE);
            next(before + "t(*", inAbstract);
            next(before + "t(*(", "* ( [ )" + BASE);
            next(before + "t(*)", SUFFIX + ")");
            next(before + "t(*)(", BASE + ")");
            next(before + "t()", SUFFIX + ")");
            next(before + "t(()", SUFFIX + ")");
            next(before + "t([", "1 ]");
            next(before + "t(t", "t a n * ( [ , )");
            next(before + "t(t n", SUFFIX + ", )");
            next(before + "t(t(", "* ( [ a n )" + BASE);
        }
        next("int b=(t)", OPERAND);
        next("int b=(t)(", OPERAND + BASE);
        next("int b=(t)a", AFTER_OPERAND + "< , ;");
        next("int b=(t)(a)", AFTER_OPERAND + "< , ;");
        next("int b=(t)(t)", OPERAND);
        next("int b=((t)", OPERAND);
        next("int b=((t)a", AFTER_OPERAND + "< )");
    }

    private static void sizeofs() {
        next("int b=sizeof", OPERAND);
        next("int b=sizeof sizeof", OPERAND);
        next("int b=sizeof-", OPERAND);
        next("int b=sizeof(", OPERAND + BASE);
        next("int b=sizeof(t)", OPERATOR + "< , ;");
        next("int b=sizeof sizeof(t)", OPERATOR + "< , ;");
        next("int b=-sizeof(t)", OPERATOR + "< , ;");
        next("int b=sizeof-(t)", OPERAND);
        next("int b=(t)sizeof(t)", OPERATOR + "< , ;");
        next("int b=sizeof(t*)", OPERATOR + "< , ;");
        next("int b=sizeof a", AFTER_OPERAND + "< , ;");
        next("int b=sizeof(a", AFTER_OPERAND + "< = )");
        next("int b=sizeof(a)", AFTER_OPERAND + "< , ;");
        next("int b=sizeof(t)*", OPERAND);
    }

    private static void blocks() {
        next("int f(){", IN_BLOCK);
        next("int f(){;", IN_BLOCK);
        next("int f(){a;", IN_BLOCK);
        next("int f(){int b;", IN_BLOCK);
        next("int f(){int;", IN_BLOCK);
        next("int f(){{", IN_BLOCK);
        next("int f(){{}", IN_BLOCK);
        next("int f(){a", AFTER_OPERAND + "< = ;");
        next("int f(){1", AFTER_OPERAND + "< ;");
        next("int f(){(", OPERAND + BASE);
        // What the names mean changes with what was declared last, and back with the scope's end.
        next("int f(int t){", IN_BLOCK);
        next("int f(int t){t", AFTER_OPERAND + "< = ;");
        next("int f(){int t;(", OPERAND + "int char void t");
        next("int f(){int t;(t", AFTER_OPERAND + "< = )");
        next("int f(){typedef int a;(a", "* ( [ )");
        next("int f(){typedef int a;1+", without(OPERAND, "a"));
        next("int f(){{typedef int a;}", IN_BLOCK);
        next("int f(){{typedef int a;}a", AFTER_OPERAND + "< = ;");
    }

    private static void declarationsInBlocks() {
        next("int f(){int", "typedef t a n * ( ;");
        next("int f(){t", "typedef t a n * ( ;");
        next("int f(){typedef", BASE);
        next("int f(){typedef t", "t a n * ( ;");
        next("int f(){t typedef", "t a n * ( ;");
        next("int f(){int*", "t a n * (");
        next("int f(){int(", "t a n * (");
        next("int f(){int b", AFTER_DECLARATOR);
        next("int f(){int b()", AFTER_DECLARATOR);
        next("int f(){int n,", "t a * (");
        next("int f(){t t,", "a n * (");
        next("int f(){int b=", OPERAND);
        next("int f(){int b=1", AFTER_OPERAND + "< , ;");
        next("int f(int n){int", "typedef t a * ( ;");
        next("int f(int n){{int", "typedef t a n * ( ;");
        next("int f(int b(int n)){int", "typedef t a n * ( ;");
    }

    private static void choices() {
        next("int f(){if", "(");
        next("int f(){if(", OPERAND);
        next("int f(){if(a", AFTER_OPERAND + "< = )");
        next("int f(){if(1)", STATEMENT);
        next("int f(){if(1);", IN_BLOCK + "else");
        next("int f(){if(1)a;", IN_BLOCK + "else");
        next("int f(){if(1){}", IN_BLOCK + "else");
        next("int f(){if(1)return;", IN_BLOCK + "else");
        next("int f(){if(1);else", STATEMENT);
        next("int f(){if(1);else;", IN_BLOCK);
        next("int f(){if(1)if(1);", IN_BLOCK + "else");
        next("int f(){if(1)if(1);else;", IN_BLOCK + "else");
        next("int f(){if(1)if(1);else;else;", IN_BLOCK);
        next("int f(){if(1)while(1);", IN_BLOCK + "else");
        next("int f(){if(1)while(1)if(1);else;", IN_BLOCK + "else");
        next("int f(){if(1);else if(1);", IN_BLOCK + "else");
        next("int f(){if(1){if(1);", IN_BLOCK + "else");
        next("int f(){if(1){if(1);else;", IN_BLOCK);
        next("int f(){if(1){if(1);}", IN_BLOCK + "else");
        next("int f(){if(1);;", IN_BLOCK);
    }

    private static void loopsAndReturns() {
        next("int f(){while", "(");
        next("int f(){while(", OPERAND);
        next("int f(){while(a", AFTER_OPERAND + "< = )");
        next("int f(){while(1)", STATEMENT);
        next("int f(){while(1);", IN_BLOCK);
        next("int f(){while(1)while(1)", STATEMENT);
        next("int f(){while(1)if(1);", IN_BLOCK + "else");
        next("int f(){return", OPERAND + ";");
        next("int f(){return a", AFTER_OPERAND + "< = ;");
        next("int f(){return 1", AFTER_OPERAND + "< ;");
        next("int f(){return;", IN_BLOCK);
    }

    /** With 8 open, nothing that opens fits; all else does as ever. */
    private static void eightOpen() {
        next("int b=((((((((", without(OPERAND + BASE, OPENERS));
        next("int b=((((((((a", without(AFTER_OPERAND + "< = )", OPENERS));
        next("int b=((((((((t", "* )");
        next("int b=((((((((t)", OPERAND);
        next("int b=(((((((a(", without(OPERAND + ")", OPENERS));
        next("int b=(((((((a[", without(OPERAND, OPENERS));
        next("int b=((((((((a)", AFTER_OPERAND + "< )");
        next("int((((((((", "n *");
        next("int((((((((b", ")");
        next("int((((((((b)", SUFFIX + ")");
        next("int(((((((b[", "1 ]");
        next("int(((((((b(", BASE + ")");
        next("int(((((((b(int", "t a n * , )");
        next("int(((((((b(int c", ", )");
        next("int f(int(int(int(int(int(int(int(", "* a n )" + BASE);
        next("int f(){{{{{{{{", without(IN_BLOCK, OPENERS));
        next("int f(){{{{{{{{}", IN_BLOCK);
        next("int f(){{{{{{{{a", without(AFTER_OPERAND + "< = ;", OPENERS));
        next("int f(){{{{{{{{int", "typedef t a n * ;");
        next("int f(){{{{{{{{int b", "= , ;");
        next("int f(){{{{{{{{return", without(OPERAND + ";", OPENERS));
    }

    private static void sevenOpen() {
        next("int b=(((((((", OPERAND + BASE);
        next("int b=(((((((a", AFTER_OPERAND + "< = )");
        next("int b=(((((((t", "* ( [ )");
        next("int(((((((", "n * (");
        next("int(((((((b", SUFFIX + ")");
        next("int f(){{{{{{{", IN_BLOCK);
        next("int f(){{{{{{{int b", AFTER_DECLARATOR);
    }

    /** 'if' and 'while' can be the eighth; then their conditions can't be opened. */
    private static void eightOpenStatements() {
        next("int f(){{{{{{{if", NOTHING);
        next("int f(){{{{{{{while", NOTHING);
        next("int f(){{{{{{if", "(");
        next("int f(){{{{{{while(", without(OPERAND, OPENERS));
        next("int f(){{{{{{if(1)", STATEMENT);
        next("int f(){{{{{{if(1){", without(IN_BLOCK, OPENERS));
        next("int f(){{{{{{if(1){}", IN_BLOCK + "else");
        next("int f(){{{{{{if(1)if", NOTHING);
        next("int f(){{{{{{if(1);", IN_BLOCK + "else");
        next("int f(){{{{{{if(1);else", STATEMENT);
        next("int f(){{{{{{if(1);else{", without(IN_BLOCK, OPENERS));
        next("int f(){{{{{{if(1);else while", NOTHING);
        next("int f(){{{{{if(1);else if(1)", STATEMENT);
        next("int f(){{{{{if(1);else if(1){", without(IN_BLOCK, OPENERS));
        next("int f(){{{{{if(1)if(1)", STATEMENT);
        next("int f(){{{{{if(1)if(1){", without(IN_BLOCK, OPENERS));
        next("int f(){{{{{if(1)if(1);else{", without(IN_BLOCK, OPENERS));
        next("int f(){{{{{if(1)if(1);else;else{", IN_BLOCK);
        next("int f(){{{{{if(1)if(1);{", IN_BLOCK);
        next("int f(){{{{{if(1)if(1);{{{", without(IN_BLOCK, OPENERS));
    }
}
