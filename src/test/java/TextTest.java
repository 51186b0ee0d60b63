/** Promises 1 to 3: a new object, type, cut; and that they leave alone what was read. */
public final class TextTest {
    public static void main(String[] args) {
        newObject();
        type();
        typeRefuses();
        typeUpToTheLimit();
        cut();
        keepsWhatWasRead();
        Check.end();
    }

    private static void newObject() {
        TypeOrThing x = new TypeOrThing();
        Check.due("NONE", TypeOrThing.NONE, -1);
        nothingIsTold(x, "a new object");
        Check.due("cut(1) of an empty text", x.cut(1), false);
        Check.due("read() of an empty text", x.read(), 0);
        nothingIsTold(x, "an empty program");
    }

    static void nothingIsTold(TypeOrThing x, String of) {
        Check.due("at() of " + of, x.at(), -1);
        Check.due("declared() of " + of, x.declared(), 0);
        Check.due("length() of " + of, x.length(), 0);
        Check.due("role(0) of " + of, x.role(0), -1);
        Check.due("meaning(0) of " + of, x.meaning(0), -1);
        Check.outOfBounds("about(0, 0) of " + of, () -> x.about(0, 0));
        Check.outOfBounds("typeAt(0, 0) of " + of, () -> x.typeAt(0, 0));
        Check.outOfBounds("form(0) of " + of, () -> x.form(0));
    }

    private static void type() {
        TypeOrThing x = new TypeOrThing();
        Check.due("type of the lowest byte", x.type(0x7F00L | 'i', 1), true);
        Check.due("type of two bytes", x.type(0x800000L | 't' << 8 | 'n', 2), true);
        Check.due("type of a line's end", x.type('\n', 1), true);
        Check.due("type of 8 bytes", x.type(0x3B30313D65646362L, 8), true);
        Check.due("read()", x.read(), 5);
        Check.due("form", Check.form(x), "bcde:i10 =;");
    }

    private static void typeRefuses() {
        TypeOrThing x = new TypeOrThing();
        for (int n : new int[] {0, -1, 9, Integer.MIN_VALUE, Integer.MAX_VALUE}) {
            Check.due("type(.., " + n + ")", x.type(0x2020202020202020L, n), false);
        }
        for (int c = 0; c < 256; c++) {
            boolean fits = c == 10 || c >= 32 && c <= 126;
            Check.due("type of character " + c, new TypeOrThing().type(c, 1), fits);
            long last = (long) c << 56 | 0x20202020202020L;
            Check.due("type of character " + c + " last", new TypeOrThing().type(last, 8), fits);
        }
        Check.due("type of a bad byte in the middle", x.type('a' | 9 << 8 | 'b' << 16, 3), false);
        Check.due("type of a bad highest byte", x.type(-1L, 8), false);
        Check.due("cut(1): nothing was appended", x.cut(1), false);
    }

    private static void typeUpToTheLimit() {
        TypeOrThing x = Check.typed(" ".repeat(156));
        Check.due("type of five more than 155", x.type(0x2020202020L, 5), false);
        Check.due("type of four more than 156", x.type(0x3B61L << 16 | 0x2020L, 4), true);
        Check.due("type of the 161st", x.type(' ', 1), false);
        Check.due("cut(161)", x.cut(161), false);
        Check.due("cut(160)", x.cut(160), true);
        Check.due("cut(157)", x.cut(157), true);
        Check.due("type of int", Check.append(x, "int"), true);
        Check.due("AT of a full text", Check.readAt(x), 1);
        String full = "int abcdefgh;".repeat(1) + " ".repeat(146) + ";";
        Check.due("length of a full text", full.length(), 160);
        Check.atDue(full, 3);
    }

    private static void cut() {
        TypeOrThing x = Check.typed("int abc;int d;");
        Check.due("cut(-1)", x.cut(-1), false);
        Check.due("cut(15)", x.cut(15), false);
        Check.due("cut(MIN)", x.cut(Integer.MIN_VALUE), false);
        Check.due("cut(14)", x.cut(14), true);
        Check.due("read() of all", x.read(), 6);
        Check.due("cut(8)", x.cut(8), true);
        Check.due("cut(9) then", x.cut(9), false);
        Check.due("read() of the first", x.read(), 3);
        Check.due("cut(5)", x.cut(5), true);
        Check.due("type ;", x.type(';', 1), true);
        Check.due("read() of the shorter name", x.read(), 3);
        Check.due("form", Check.form(x), "a:i;");
        Check.due("cut(0)", x.cut(0), true);
        Check.due("read() of nothing", x.read(), 0);
    }

    private static void keepsWhatWasRead() {
        TypeOrThing x = Check.read("typedef int t;t a;");
        x.cut(0);
        Check.append(x, "char$");
        Check.due("form behind cut and type", Check.form(x), "#t:i;a:0.;");
        Check.due("types behind cut and type", Check.types(x), "i 0.");
        Check.due("roles behind cut and type", Check.roles(x, 7), "0030140");
        Check.due("at() behind cut and type", x.at(), -1);
        Check.due("AT", Check.readAt(x), 1);
        x.cut(0);
        Check.due("at() behind cut", x.at(), 1);
    }
}
