/** What the document's Terms say of what is open, at each boundary and just beyond it. */
public final class OpenEdgeTest {
    public static void main(String[] args) {
        eightOpenBrackets();
        eightOpenStatements();
        closedIsNotOpen();
        Check.end();
    }

    private static String nest(int times, String open, String inside, String close) {
        return open.repeat(times) + inside + close.repeat(times);
    }

    /** "OPEN are the brackets ( [ { that are not closed yet .. 8 at most at once" */
    private static void eightOpenBrackets() {
        Check.program("int a=" + nest(8, "(", "1", ")") + ";");
        Check.refused("int a=" + nest(8, "(", "@(1)", ")") + ";");
        Check.program("int a=" + nest(8, "a[", "1", "]") + ";");
        Check.refused("int a=" + nest(8, "a[", "a@[1]", "]") + ";");
        Check.program("int a=" + nest(8, "a(", "", ")") + ";");
        Check.refused("int a=" + nest(8, "a(", "a@()", ")") + ";");
        Check.program("int a=" + nest(8, "a(1,", "1", ")") + ";");
        Check.refused("int a=" + nest(8, "a(1,", "a@()", ")") + ";");
        Check.program("int a=" + nest(8, "-(", "1", ")") + ";");
        Check.refused("int a=" + nest(8, "-(", "@(int)1", ")") + ";");
        Check.program("int f()" + nest(8, "{", "", "}"));
        Check.refused("int f()" + nest(8, "{", "@{}", "}"));
        Check.program("int f()" + nest(8, "{", "int a;", "}"));
        Check.refused("int f()" + nest(8, "{", "int@(a);", "}"));
        Check.program("int f()" + nest(8, "{", "int a;", "}"));
        Check.refused("int f()" + nest(8, "{", "int a@[2];", "}"));
        Check.program("int" + nest(8, "(", "a", ")") + ";");
        Check.refused("int" + nest(8, "(", "@(a)", ")") + ";");
        Check.program("int" + nest(8, "(", "a", ")") + ";");
        Check.refused("int" + nest(8, "(", "a@[2]", ")") + ";");
        Check.program("int" + nest(8, "(", "a", ")") + ";");
        Check.refused("int" + nest(8, "(", "a@()", ")") + ";");
        Check.program("int f(int" + nest(7, "(*", "", ")") + ");");
        Check.refused("int f(int" + nest(7, "(*", "@(*)", ")") + ");");
        Check.program("int f(int" + nest(7, "(int", "", ")") + ");");
        Check.refused("int f(int" + nest(7, "(int", "@(int)", ")") + ");");
        Check.program("int f(int" + nest(7, "(*", "a", ")") + ");");
        Check.refused("int f(int" + nest(7, "(*", "a@[2]", ")") + ");");
        Check.program("int a=(int" + nest(7, "(*", "", ")") + ")1;");
        Check.refused("int a=(int" + nest(7, "(*", "@(*)", ")") + ")1;");
        Check.program("int a=(int" + nest(7, "(*", "", ")") + ")1;");
        Check.refused("int a=(int" + nest(7, "(*", "@[2]", ")") + ")1;");
        Check.program("int a=sizeof(int" + nest(7, "(*", "", ")") + ");");
        Check.refused("int a=sizeof(int" + nest(7, "(*", "@()", ")") + ");");
        // What fits nowhere is refused all the same, whether it opens or not.
        Check.refused("int a=((((((((@)");
        Check.refused("int a=((((((((@[");
        Check.refused("int a=((((((((1@{");
    }

    /** "each 'if' and 'while' until the first statement behind its condition ends, and each 'else' until its .." */
    private static void eightOpenStatements() {
        for (String word : new String[] {"if", "while"}) {
            String one = word + "(1)";
            Check.program("int f(){" + one.repeat(6) + ";}");
            Check.refused("int f(){" + one.repeat(6) + word + "@(1);}");
            Check.program("int f(){" + one.repeat(6) + "{}}");
            Check.refused("int f(){" + one.repeat(6) + "{@{}}}");
            Check.refused("int f(){" + one.repeat(6) + "{@" + word + "(1);}}");
            Check.program("int f(){" + one.repeat(6) + "(1);}");
            Check.refused("int f(){" + one.repeat(6) + "(@(1));}");
            Check.program("int f(){{{{{{" + one + ";" + one + ";" + one + ";}}}}}}");
            Check.program("int f(){{{{{" + one + one + ";" + one + one + "{}}}}}}");
        }
        Check.program("int f(){" + "if(1);else ".repeat(6) + "{}}");
        Check.refused("int f(){" + "if(1);else ".repeat(6) + "{@{}}}");
        Check.refused("int f(){" + "if(1);else ".repeat(6) + "if@(1);else;}");
        Check.program("int f(){" + "if(1);else ".repeat(5) + "if(1)(1);else(2);}");
        Check.refused("int f(){" + "if(1);else ".repeat(5) + "if(1)(1);else(@(2));}");
        Check.program("int f(){{{{{{if(1);else{}if(1);else{}}}}}}}");
    }

    private static void closedIsNotOpen() {
        Check.program("int a=(1)+(1)+(1)+(1)+(1)+(1)+(1)+(1)+(1)+((((((((1))))))));");
        Check.program("int f(){{}{}{}{}{}{}{}{}{}{{{{{{{}}}}}}}}");
        Check.program("int f(){" + "if(1);".repeat(9) + "while(1);".repeat(9) + "}");
        Check.program("int f(){if(1)if(1)if(1)if(1)if(1)if(1);if(1)if(1)if(1)if(1)if(1)if(1);}");
        Check.program("int a[1][2][3][4][5][6][7][8][9],((((((((b))))))));");
        Check.program("int f(int(a),int(b),int(c),int(d),int(e),int(g),int(h),int(i),int(j)){{{{{{{{}}}}}}}}");
        Check.refused("int f(int(a),int(b),int(c),int(d)){{{{{{{{@{}}}}}}}}}");
    }
}
