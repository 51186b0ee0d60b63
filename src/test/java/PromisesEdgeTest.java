import java.util.Arrays;

/** The sentences of the promises that name a boundary, each at it and just beyond it. */
public final class PromisesEdgeTest {
    private static final long BLANKS = 0x2020202020202020L;
    private static final int[] FAR = {Integer.MIN_VALUE, Integer.MIN_VALUE + 1, -256, 255, 256, 65536,
        Integer.MAX_VALUE - 1, Integer.MAX_VALUE};

    public static void main(String[] args) {
        newTextIsEmpty();
        nothingWasRead();
        typeAppendsTheLowestFirst();
        typeTakesOneToEight();
        typeLooksAtTheLowestBytesAlone();
        typeStopsAt160();
        refusedTypeAppendsNothing();
        cutKeepsTheFirst();
        cutTakesNoneOrAll();
        refusedCutKeepsAll();
        typeAndCutLeaveWhatWasRead();
        readCountsTheTokens();
        readThrowsAtTheFirstThatDoesNotFit();
        readThrowsAtTheEnd();
        readThrowsAtTheNinthThatIsOpen();
        readForgetsInAnyCase();
        readForgetsWhatWasBegun();
        atIsOfTheLatestRead();
        rolesOfNames();
        roleOfNoToken();
        meaningsOfNames();
        meaningOfNoToken();
        declaredCounts();
        aboutEachPart();
        aboutNoDeclarationOrPart();
        depthsFromOneToNine();
        typeAtEachCharacter();
        typeAtNone();
        lengthOfTheForm();
        formAtEachCharacter();
        formAtNone();
        thrownCallsChangeNothing();
        fiveHundredAndTwelveCalls();
        fiveHundredAndTwelveReads();
        objectsAreOfTheirOwn();
        Check.end();
    }

    // Promise 1

    /** "An empty text" */
    private static void newTextIsEmpty() {
        TypeOrThing x = new TypeOrThing();
        Check.due("cut(1) of a new object", x.cut(1), false);
        Check.due("cut(0) of a new object", x.cut(0), true);
        Check.due("read() of a new object", x.read(), 0);
        Check.due("160 characters fit a new object", Check.append(new TypeOrThing(), " ".repeat(160)), true);
    }

    /** "nothing was read" */
    private static void nothingWasRead() {
        TextTest.nothingIsTold(new TypeOrThing(), "a new object");
        TypeOrThing x = Check.typed("int a;");
        TextTest.nothingIsTold(x, "an object that has not read its text");
        Check.due("read() then", x.read(), 3);
        Check.due("declared() then", x.declared(), 1);
    }

    // Promise 2

    /** "Appends the n lowest bytes of a long to the text, the lowest first." */
    private static void typeAppendsTheLowestFirst() {
        String eight = "int abc;";
        for (int n = 1; n <= 8; n++) {
            TypeOrThing x = new TypeOrThing();
            for (int i = 0; i < 8; i += n) {
                int count = Math.min(n, 8 - i);
                Check.due("type of " + count, x.type(packed(eight) >>> 8 * i, count), true);
            }
            Check.due("cut(9)", x.cut(9), false);
            Check.due("cut(8)", x.cut(8), true);
            Check.due("read()", x.read(), 3);
            Check.due("form", Check.form(x), "abc:i;");
        }
        TypeOrThing x = new TypeOrThing();
        Check.due("type of all bytes with the sign bit clear", x.type(0x7E7E7E7E7E7E7E7EL, 8), true);
        Check.due("AT of them", Check.readAt(x), 0);
    }

    private static long packed(String text) {
        long w = 0;
        for (int i = text.length() - 1; i >= 0; i--) {
            w = w << 8 | text.charAt(i);
        }
        return w;
    }

    /** "False when n is not 1 .. 8" */
    private static void typeTakesOneToEight() {
        for (int n = 1; n <= 8; n++) {
            TypeOrThing x = new TypeOrThing();
            Check.due("type(.., " + n + ")", x.type(BLANKS, n), true);
            Check.due("cut(" + (n + 1) + ")", x.cut(n + 1), false);
            Check.due("cut(" + n + ")", x.cut(n), true);
        }
        TypeOrThing x = new TypeOrThing();
        for (int n : new int[] {-8, -1, 0, 9, 10, 16, 64, 160}) {
            Check.due("type(.., " + n + ")", x.type(BLANKS, n), false);
        }
        for (int n : FAR) {
            Check.due("type(.., " + n + ")", x.type(BLANKS, n), false);
        }
        Check.due("cut(1)", x.cut(1), false);
    }

    /** "one is not 10 or 32 .. 126": of the n lowest bytes, not of the others */
    private static void typeLooksAtTheLowestBytesAlone() {
        for (int n = 1; n <= 8; n++) {
            long lowest = n == 8 ? -1L : (1L << 8 * n) - 1;
            Check.due("type of blanks below other bytes", new TypeOrThing().type(BLANKS & lowest | ~lowest, n), true);
            Check.due("type of blanks below zeros", new TypeOrThing().type(BLANKS & lowest, n), true);
            if (n < 8) {
                Check.due("type of one byte too many", new TypeOrThing().type(BLANKS & lowest, n + 1), false);
            }
        }
    }

    /** "or there would be more than 160" */
    private static void typeStopsAt160() {
        for (int has = 150; has <= 160; has++) {
            for (int n = 1; n <= 8; n++) {
                TypeOrThing x = Check.typed(" ".repeat(has));
                Check.due("type of " + n + " behind " + has, x.type(BLANKS, n), has + n <= 160);
            }
        }
    }

    /** "(nothing is appended then)" */
    private static void refusedTypeAppendsNothing() {
        TypeOrThing x = Check.typed("int a;");
        Check.due("type of 9", x.type(BLANKS, 9), false);
        Check.due("type of 0", x.type(';', 0), false);
        Check.due("type of a last byte that is bad", x.type(';' | 127L << 8, 2), false);
        Check.due("type of a first byte that is bad", x.type(9 | ';' << 8, 2), false);
        Check.due("cut(7): it still has six", x.cut(7), false);
        Check.due("read()", x.read(), 3);
        TypeOrThing full = Check.typed("int a;" + " ".repeat(150));
        Check.due("type of five behind 156", full.type(packed("int b"), 5), false);
        Check.due("cut(157)", full.cut(157), false);
        Check.due("read() of 156", full.read(), 3);
        Check.due("type of four behind 156", full.type(packed("int;"), 4), true);
        Check.due("read() of 160", full.read(), 5);
    }

    // Promise 3

    /** "The text keeps its first n characters." */
    private static void cutKeepsTheFirst() {
        String text = "int abc,d;";
        for (int n = 0; n <= text.length(); n++) {
            TypeOrThing x = Check.typed(text);
            Check.due("cut(" + n + ")", x.cut(n), true);
            Check.due("cut(" + (n + 1) + ") then", x.cut(n + 1), false);
            int at = Check.readAt(x);
            boolean program = n == 0 || n == text.length();
            Check.due("AT", at, program ? TypeOrThing.NONE : Check.readAt(Check.typed(text.substring(0, n))));
        }
        TypeOrThing x = Check.typed("int abc;");
        Check.due("cut(6)", x.cut(6), true);
        Check.append(x, "d;");
        Check.due("read()", x.read(), 3);
        Check.due("form", Check.form(x), "abd:i;");
    }

    /** "False when n is negative or more than it has.": all and none are neither */
    private static void cutTakesNoneOrAll() {
        for (int has : new int[] {0, 1, 8, 159, 160}) {
            TypeOrThing x = Check.typed(" ".repeat(has));
            Check.due("cut(-1) of " + has, x.cut(-1), false);
            Check.due("cut(" + (has + 1) + ")", x.cut(has + 1), false);
            Check.due("cut(" + has + ")", x.cut(has), true);
            Check.due("cut(0)", x.cut(0), true);
            Check.due("cut(1)", x.cut(1), false);
        }
    }

    private static void refusedCutKeepsAll() {
        TypeOrThing x = Check.typed("int a;");
        Check.due("cut(-1)", x.cut(-1), false);
        Check.due("cut(7)", x.cut(7), false);
        for (int n : FAR) {
            Check.due("cut(" + n + ")", x.cut(n), false);
        }
        Check.due("read()", x.read(), 3);
        Check.due("cut(6)", x.cut(6), true);
    }

    /** What is told is told of what was read; the text alone changes. */
    private static void typeAndCutLeaveWhatWasRead() {
        TypeOrThing x = Check.read("int a;");
        Check.append(x, "$");
        Check.due("role(1) behind type", x.role(1), 4);
        Check.due("role(3) behind type", x.role(3), TypeOrThing.NONE);
        x.cut(0);
        Check.due("role(1) behind cut", x.role(1), 4);
        Check.due("form behind cut", Check.form(x), "a:i;");
        Check.due("at() behind cut", x.at(), TypeOrThing.NONE);
        Check.due("read() of nothing", x.read(), 0);
        TextTest.nothingIsTold(x, "a text that was emptied and read");
    }

    // Promises 4 and 5

    /** "how many tokens it has, without the END" */
    private static void readCountsTheTokens() {
        Check.due("read() of nothing", Check.typed("").read(), 0);
        Check.due("read() of blanks", Check.typed(" \n ").read(), 0);
        Check.due("read() of int;", Check.typed("int;").read(), 2);
        Check.due("read() of int;;", Check.readAt(Check.typed("int;;")), 2);
        Check.due("read() of 40 times int;", Check.typed("int;".repeat(40)).read(), 80);
        Check.due("read() of many signs", Check.typed("int" + "*".repeat(155) + "a;").read(), 158);
        Check.due("read() with numbers and words", Check.typed("int abcdefgh=1234;").read(), 5);
    }

    /** "AT is then the first token .. such that no program, however long, has these tokens .." */
    private static void readThrowsAtTheFirstThatDoesNotFit() {
        Check.throwsDue("read()", IllegalArgumentException.class, () -> Check.typed("@").read());
        Check.atDue(";", 0);
        Check.atDue("1", 0);
        Check.atDue("int int", 1);
        Check.atDue("int a int $ $", 2);
        Check.atDue("int;".repeat(39) + "int,", 79);
        Check.atDue("(".repeat(160), 0);
        Check.atDue("int a=" + "!".repeat(153) + ";", 156);
        // A program could go on from there, though not within 160 characters.
        Check.atDue("int f(){" + ";".repeat(152), 157);
        Check.atDue("int a=" + "!".repeat(154), 157);
        Check.atDue("int f(){" + ";".repeat(151) + "]", 156);
    }

    /** "(the END counts)" */
    private static void readThrowsAtTheEnd() {
        String[] tokens = "int f ( int a ) { if ( a ) return a ; else ; }".split(" ");
        for (int n = 1; n < tokens.length; n++) {
            Check.atDue(String.join(" ", Arrays.copyOf(tokens, n)), n);
        }
        Check.atDue(String.join(" ", tokens), TypeOrThing.NONE);
    }

    /** "if any number might be open, or with which more than 8 are open" */
    private static void readThrowsAtTheNinthThatIsOpen() {
        for (int n = 1; n <= 12; n++) {
            String text = "int a=" + "(".repeat(n) + "1" + ")".repeat(n) + ";";
            Check.atDue(text, n <= 8 ? TypeOrThing.NONE : 11);
            String begun = "int f()" + "{".repeat(n);
            Check.atDue(begun, n <= 8 ? 4 + n : 12);
        }
        // The ninth is AT before anything behind it.
        Check.atDue("int a=(((((((((]", 11);
        // What stands before the ninth and does not fit is AT before it.
        Check.atDue("int a=((((((((](", 11);
        Check.atDue("int a=(((((((](((", 10);
    }

    /** "(What was read before is forgotten in any case; of a text that is none, nothing is told but AT.)" */
    private static void readForgetsInAnyCase() {
        for (String next : new String[] {"$", "int", "int a;$", "typedef int t;t b;t t;", "int f(int a){a;"}) {
            TypeOrThing x = Check.read("typedef int t;t a,b=a;");
            x.cut(0);
            Check.append(x, next);
            int at = Check.readAt(x);
            Check.due("AT of " + next, at, Check.readAt(Check.typed(next)));
            Check.due("whether it threw", at != TypeOrThing.NONE, true);
            nothingIsToldButAt(x, next);
            x.cut(0);
            Check.due("read() of nothing", x.read(), 0);
            TextTest.nothingIsTold(x, "nothing behind " + next);
        }
        TypeOrThing x = Check.read("typedef int t;t a,b=a;");
        x.cut(0);
        Check.append(x, "int c;");
        Check.due("read() of the next", x.read(), 3);
        Check.due("declared() of the next", x.declared(), 1);
        Check.due("form of the next", Check.form(x), "c:i;");
        Check.due("roles of the next", Check.roles(x, 3), "040");
        Check.due("meanings of the next", Check.meanings(x, 3), "-0-");
        Check.due("role(3) of the next", x.role(3), TypeOrThing.NONE);
        Check.due("meaning(4) of the next", x.meaning(4), TypeOrThing.NONE);
    }

    /** What was open, or stood before an operand that is missing, at the token AT is forgotten, too. */
    private static void readForgetsWhatWasBegun() {
        TypeOrThing x = new TypeOrThing();
        for (int round = 0; round < 3; round++) {
            x.cut(0);
            Check.append(x, "int f(int a){(((((((" + "!".repeat(130));
            Check.due("AT of what has begun", Check.readAt(x), 144);
            x.cut(0);
            Check.append(x, "int f(){{{{{{{{}}}}}}}}int a=((((((((!1))))))));");
            Check.due("AT of what has as much open", Check.readAt(x), TypeOrThing.NONE);
            Check.due("its form", Check.form(x), "f:()i{{{{{{{{}}}}}}}}a:i1 !=;");
            Check.due("depths", Check.parts(x, 1), "1 1");
        }
    }

    private static void nothingIsToldButAt(TypeOrThing x, String text) {
        for (int i = 0; i < 12; i++) {
            Check.due("role(" + i + ") of " + text, x.role(i), TypeOrThing.NONE);
            Check.due("meaning(" + i + ") of " + text, x.meaning(i), TypeOrThing.NONE);
        }
        Check.due("declared() of " + text, x.declared(), 0);
        Check.due("length() of " + text, x.length(), 0);
        Check.outOfBounds("about(0, 0) of " + text, () -> x.about(0, 0));
        Check.outOfBounds("typeAt(0, 0) of " + text, () -> x.typeAt(0, 0));
        Check.outOfBounds("form(0) of " + text, () -> x.form(0));
    }

    /** "AT, the number of the token (from 0) at which the latest read() threw; NONE when it did not, .." */
    private static void atIsOfTheLatestRead() {
        TypeOrThing x = new TypeOrThing();
        Check.due("at() before any read()", x.at(), -1);
        Check.append(x, "$");
        Check.due("at() before read()", x.at(), -1);
        Check.throwsDue("read()", IllegalArgumentException.class, x::read);
        Check.due("at() of the first token", x.at(), 0);
        Check.due("at() again", x.at(), 0);
        x.cut(0);
        Check.append(x, "int a");
        Check.due("at() of what was read", x.at(), 0);
        Check.throwsDue("read()", IllegalArgumentException.class, x::read);
        Check.due("at() of the END", x.at(), 2);
        Check.append(x, ";");
        Check.due("read()", x.read(), 3);
        Check.due("at() of a program", x.at(), -1);
        x.cut(3);
        Check.throwsDue("read()", IllegalArgumentException.class, x::read);
        Check.due("at() of the END behind one token", x.at(), 1);
        x.cut(0);
        Check.due("read() of nothing", x.read(), 0);
        Check.due("at() of nothing", x.at(), -1);
    }

    // Promises 6 and 7

    /** "1 a name for a type, 2 a name for a thing, 3 a name that is declared as a type, .., 0 another one" */
    private static void rolesOfNames() {
        Check.due("each role", Check.roles(Check.read("typedef int t;t a=a;"), 9), "003014020");
        String others = "int f(){if(!1<2){}else;while(3+4-5*6/7)return sizeof(char);}";
        int count = Check.countTokens(others);
        Check.due("roles of other tokens", Check.roles(Check.read(others), count), "04" + "0".repeat(count - 2));
    }

    /** "NONE when there is no such token" */
    private static void roleOfNoToken() {
        TypeOrThing x = Check.read("int a;");
        Check.due("role(0)", x.role(0), 0);
        Check.due("role(2)", x.role(2), 0);
        Check.due("role(-1)", x.role(-1), -1);
        Check.due("role(3)", x.role(3), -1);
        for (int i : FAR) {
            Check.due("role(" + i + ")", x.role(i), -1);
        }
        TypeOrThing full = Check.read("int f(){" + ";".repeat(151) + "}");
        Check.due("role(156)", full.role(156), 0);
        for (int i = 157; i <= 161; i++) {
            Check.due("role(" + i + ")", full.role(i), -1);
        }
    }

    /** "The number of the declaration that a name (role 1 to 4) means or makes" */
    private static void meaningsOfNames() {
        Check.due("meanings", Check.meanings(Check.read("typedef int t;t a=a;"), 9), "--0-01-1-");
        TypeOrThing x = Check.read("int a,b,c,d,e,f,g,h,i,j,k=j+k;");
        Check.due("meaning(19)", x.meaning(19), 9);
        Check.due("meaning(21)", x.meaning(21), 10);
        Check.due("meaning(23)", x.meaning(23), 9);
        Check.due("meaning(25)", x.meaning(25), 10);
    }

    /** "NONE for other tokens or when there is none" */
    private static void meaningOfNoToken() {
        TypeOrThing x = Check.read("int a;");
        Check.due("meaning(0)", x.meaning(0), -1);
        Check.due("meaning(1)", x.meaning(1), 0);
        Check.due("meaning(2)", x.meaning(2), -1);
        Check.due("meaning(-1)", x.meaning(-1), -1);
        Check.due("meaning(3)", x.meaning(3), -1);
        for (int i : FAR) {
            Check.due("meaning(" + i + ")", x.meaning(i), -1);
        }
        TypeOrThing full = Check.read("int" + "*".repeat(155) + "a;");
        Check.due("meaning(156)", full.meaning(156), 0);
        for (int i = 157; i <= 161; i++) {
            Check.due("meaning(" + i + ")", full.meaning(i), -1);
        }
    }

    // Promises 8 to 10

    /** "How many declarations there are." */
    private static void declaredCounts() {
        Check.due("declared() of nothing", Check.read("").declared(), 0);
        Check.due("declared() of no declarator", Check.read("int;typedef int;").declared(), 0);
        Check.due("declared() of one", Check.read("int a;").declared(), 1);
        Check.due("declared() of parameters", Check.read("int f(int a,int,int b(int c));").declared(), 4);
        Check.due("declared() in a cast", Check.read("int a=(int(int b,int))1;").declared(), 2);
        TypeOrThing x = Check.read(mostDeclarations());
        Check.due("declared() of many", x.declared(), 69);
        Check.due("the last one's token", x.about(68, 0), Check.countTokens(mostDeclarations()) - 4);
        Check.due("the last one's type", Check.type(x, 68), "i");
        Check.outOfBounds("about(69, 0)", () -> x.about(69, 0));
    }

    /** A text of 159 characters with names of one letter, in as few scopes as will do. */
    private static String mostDeclarations() {
        String letters = "a,b,c,d,e,f,g,h,i,j,k,l,m,n,o,p,q,r,s,t,u,v,w,x,y";
        return "int " + letters + ";int z(){int " + letters + ",z;{int a,b,c,d,e,f,g,h,i,j,k,l,m,n,o,p,q;}}";
    }

    /** "part 0: its name's token, 1: how many scopes are open there .., 2: .., 3: .., else 0" */
    private static void aboutEachPart() {
        String program = "int a;typedef int*t;int f(t b){t*c;}";
        Check.partsDue(program, 0, "1 6 12 9 17");
        Check.partsDue(program, 1, "1 1 2 1 2");
        Check.partsDue(program, 2, "1 2 2 5 3");
        Check.partsDue(program, 3, "0 1 0 2 0");
    }

    /** "IndexOutOfBoundsException when there is no such declaration or part." */
    private static void aboutNoDeclarationOrPart() {
        TypeOrThing x = Check.read("int a,b;");
        for (int part = 0; part <= 3; part++) {
            int p = part;
            Check.outOfBounds("about(-1, " + p + ")", () -> x.about(-1, p));
            Check.outOfBounds("about(2, " + p + ")", () -> x.about(2, p));
            for (int k : FAR) {
                Check.outOfBounds("about(" + k + ", " + p + ")", () -> x.about(k, p));
            }
        }
        for (int k = 0; k <= 1; k++) {
            int d = k;
            Check.outOfBounds("about(" + d + ", -1)", () -> x.about(d, -1));
            Check.outOfBounds("about(" + d + ", 4)", () -> x.about(d, 4));
            for (int p : FAR) {
                Check.outOfBounds("about(" + d + ", " + p + ")", () -> x.about(d, p));
            }
        }
        Check.due("about(0, 0)", x.about(0, 0), 1);
        Check.due("about(1, 3)", x.about(1, 3), 0);
    }

    /** "(1 in the outermost one)" */
    private static void depthsFromOneToNine() {
        Check.due("the outermost", Check.read("int a;").about(0, 1), 1);
        for (int n = 1; n <= 8; n++) {
            TypeOrThing x = Check.read("int f()" + "{".repeat(n) + "int a;" + "}".repeat(n) + "int b;");
            Check.due("depths with " + n + " blocks", Check.parts(x, 1), "1 " + (n + 1) + " 1");
        }
        // Brackets and statements that are no scopes do not count.
        Check.partsDue("int((f))(){if(1)while(2){int a;}}", 1, "1 3");
    }

    /** "Character i of the type of declaration k." */
    private static void typeAtEachCharacter() {
        TypeOrThing x = Check.read("int a;char*b[12];");
        Check.due("typeAt(0, 0)", x.typeAt(0, 0), (int) 'i');
        String type = "[12]*c";
        for (int i = 0; i < type.length(); i++) {
            Check.due("typeAt(1, " + i + ")", x.typeAt(1, i), (int) type.charAt(i));
        }
    }

    /** "IndexOutOfBoundsException when there is none." */
    private static void typeAtNone() {
        TypeOrThing x = Check.read("int a;char*b[12];int c;");
        Check.outOfBounds("typeAt(0, 1)", () -> x.typeAt(0, 1));
        Check.outOfBounds("typeAt(1, 6)", () -> x.typeAt(1, 6));
        Check.outOfBounds("typeAt(2, 1)", () -> x.typeAt(2, 1));
        for (int k = 0; k <= 2; k++) {
            int d = k;
            Check.outOfBounds("typeAt(" + d + ", -1)", () -> x.typeAt(d, -1));
            for (int i : FAR) {
                Check.outOfBounds("typeAt(" + d + ", " + i + ")", () -> x.typeAt(d, i));
                Check.outOfBounds("typeAt(" + i + ", " + d + ")", () -> x.typeAt(i, d));
            }
        }
        Check.outOfBounds("typeAt(-1, 0)", () -> x.typeAt(-1, 0));
        Check.outOfBounds("typeAt(3, 0)", () -> x.typeAt(3, 0));
        TypeOrThing longest = Check.read("int" + "*".repeat(155) + "a;");
        Check.due("typeAt(0, 154)", longest.typeAt(0, 154), (int) '*');
        Check.due("typeAt(0, 155)", longest.typeAt(0, 155), (int) 'i');
        Check.outOfBounds("typeAt(0, 156)", () -> longest.typeAt(0, 156));
    }

    // Promises 11 and 12

    /** "The length of the plain form." */
    private static void lengthOfTheForm() {
        Check.due("length() of nothing", Check.read("").length(), 0);
        Check.due("length() of no declarator", Check.read("int;").length(), 0);
        Check.due("length() of the shortest", Check.read("int a;").length(), 4);
        Check.due("length() of many declarations", Check.read(mostDeclarations()).length(),
            68 * "a:i;".length() + "z:()i{{}}".length());
        Check.due("length() of stars", Check.read("int" + "*".repeat(155) + "a;").length(), 159);
    }

    /** "Character i of the plain form." */
    private static void formAtEachCharacter() {
        TypeOrThing x = Check.read("int a=1;");
        String form = "a:i1 =;";
        Check.due("length()", x.length(), form.length());
        for (int i = 0; i < form.length(); i++) {
            Check.due("form(" + i + ")", x.form(i), (int) form.charAt(i));
        }
    }

    /** "IndexOutOfBoundsException when there is none." */
    private static void formAtNone() {
        TypeOrThing x = Check.read("int a=1;");
        Check.due("form(0)", x.form(0), (int) 'a');
        Check.due("form(6)", x.form(6), (int) ';');
        Check.outOfBounds("form(-1)", () -> x.form(-1));
        Check.outOfBounds("form(7)", () -> x.form(7));
        for (int i : FAR) {
            Check.outOfBounds("form(" + i + ")", () -> x.form(i));
        }
        TypeOrThing empty = Check.read("int;");
        Check.outOfBounds("form(0) of no declarator", () -> empty.form(0));
        TypeOrThing full = Check.read(mostDeclarations());
        Check.due("form of the last", full.form(280), (int) '}');
        Check.outOfBounds("form behind the last", () -> full.form(281));
    }

    // All of them

    private static void thrownCallsChangeNothing() {
        TypeOrThing x = Check.read("typedef int t;t*a=a;");
        for (int i : FAR) {
            Check.outOfBounds("about(" + i + ", 9)", () -> x.about(i, 9));
            Check.outOfBounds("typeAt(0, " + i + ")", () -> x.typeAt(0, i));
            Check.outOfBounds("form(" + i + ")", () -> x.form(i));
            Check.due("type(.., " + i + ")", x.type(BLANKS, i), false);
            Check.due("cut(" + i + ")", x.cut(i), false);
        }
        Check.due("at()", x.at(), -1);
        Check.due("declared()", x.declared(), 2);
        Check.due("types", Check.types(x), "i *0.");
        Check.due("form", Check.form(x), "#t:i;a:*0.a =;");
        Check.due("roles", Check.roles(x, 10), "0030104020");
        Check.due("read()", x.read(), 10);
    }

    /** "An object is used for at most 512 calls after it has been made": the 512th is as good as the first */
    private static void fiveHundredAndTwelveCalls() {
        TypeOrThing x = new TypeOrThing();
        String program = "typedef int t;int f(t a){return(t)a;}";
        // A round is a call of cut, five of type, and those of read(), at() and declared().
        for (int round = 0; round < 56; round++) {
            boolean fits = round % 2 == 1;
            Check.due("cut(0) in round " + round, x.cut(0), true);
            Check.due("type in round " + round, Check.append(x, fits ? program : program + "}"), true);
            Check.due("AT in round " + round, Check.readAt(x), fits ? TypeOrThing.NONE : 18);
            Check.due("declared() in round " + round, x.declared(), fits ? 3 : 0);
        }
        Check.due("call 505: read()", x.read(), 18);
        Check.due("call 506: role(15)", x.role(15), 2);
        Check.due("call 507: meaning(15)", x.meaning(15), 1);
        Check.due("call 508: about(2, 3)", x.about(2, 3), 2);
        Check.due("call 509: typeAt(2, 1)", x.typeAt(2, 1), (int) '0');
        Check.due("call 510: length()", x.length(), 21);
        Check.outOfBounds("call 511: form(21)", () -> x.form(21));
        Check.due("call 512: form(20)", x.form(20), (int) '}');
    }

    /** The dearest calls, all on one object: nothing grows from one to the next. */
    private static void fiveHundredAndTwelveReads() {
        String[] texts = {mostDeclarations(), "int a=" + "!".repeat(153) + ";", "int" + "*".repeat(155) + "a;"};
        int[] ats = {TypeOrThing.NONE, 156, TypeOrThing.NONE};
        for (int i = 0; i < texts.length; i++) {
            TypeOrThing x = Check.typed(texts[i]);
            int read = 0;
            for (int calls = 20; calls + 2 <= 510; calls += 2) {
                read += Check.readAt(x) == ats[i] ? 1 : 0;
            }
            Check.due("reads of text " + i + " that answer as due", read, 245);
            Check.due("length() in the end", x.length(), lengthAfterRead(texts[i]));
        }
    }

    private static int lengthAfterRead(String text) {
        TypeOrThing x = Check.typed(text);
        Check.readAt(x);
        return x.length();
    }

    /** What one object reads changes nothing in another. */
    private static void objectsAreOfTheirOwn() {
        TypeOrThing x = Check.read("typedef int t;t a;");
        TypeOrThing y = Check.read("char b;");
        Check.due("AT of a third", Check.readAt(Check.typed("int a;$")), 3);
        Check.due("form of the first", Check.form(x), "#t:i;a:0.;");
        Check.due("form of the second", Check.form(y), "b:c;");
        Check.due("at() of the first", x.at(), -1);
        Check.due("read() of the first again", x.read(), 7);
        Check.due("form of the second again", Check.form(y), "b:c;");
    }
}
