/** What the document's Terms say of types and the plain form, at each boundary and just beyond it. */
public final class WrittenEdgeTest {
    public static void main(String[] args) {
        typesFromTheNameOutwards();
        numbersAsTheyAreTyped();
        voidAloneIsNothing();
        numbersOfDeclarations();
        formOfWhatMayBeMissing();
        formOfSigns();
        formOfCalls();
        formAndTypesOfFullTexts();
        Check.end();
    }

    // A TYPE

    /** "apply the suffixes behind it, from left to right, then the stars before it; then, if that is a group, .." */
    private static void typesFromTheNameOutwards() {
        Check.typesDue("int a,*b,**c,d[1],e[1][2],*g[1],(*h)[1],**(**i[1][2])[3];",
            "i *i **i [1]i [1][2]i [1]*i *[1]i [1][2]**[3]**i");
        Check.typesDue("char*(*(*(*a)[1])())[2],((((b))));", "*[1]*()*[2]*c c");
        Check.typesDue("int f(int*,int[1],int(*)[1],int*(*[1])(char));", "(*i,[1]i,*[1]i,[1]*(c)*i)i");
        Check.partsDue("int" + "*".repeat(155) + "a;", 2, "156");
    }

    /** "'[', the number as it is typed, ']'" */
    private static void numbersAsTheyAreTyped() {
        Check.typesDue("int a[],b[0],c[00],d[0000],e[007],g[9999];", "[]i [0]i [00]i [0000]i [007]i [9999]i");
    }

    /** "(void alone is nothing)" */
    private static void voidAloneIsNothing() {
        Check.typesDue("int f(void),g(),h(void,int),i(void*),j(int(void));", "()i ()i (v,i)i (*v)i (()i)i");
        Check.formDue("int a=(int(void))1;", "a:i1 [()i]=;");
    }

    /** "Declarations are numbered 0, 1, .. as they come" */
    private static void numbersOfDeclarations() {
        StringBuilder program = new StringBuilder("typedef int a;");
        StringBuilder types = new StringBuilder("i");
        for (char c = 'b'; program.length() + 12 <= 160; c++) {
            program.append((char) (c - 1)).append(" typedef ").append(c).append(';');
            types.append(' ').append(c - 'b').append('.');
        }
        TypeOrThing x = Check.read(program.toString());
        Check.due("types", Check.types(x), types.toString());
        Check.typesDue("typedef int a,b,c,d,e,f,g,h,i,j,k;j l;k m(k),*n;", "i i i i i i i i i i i 9. (10.)10. *10.");
    }

    // THE PLAIN FORM

    /** "Specifiers without a declarator: nothing", "the expression, if there is one, and '^'", and their like */
    private static void formOfWhatMayBeMissing() {
        Check.formDue("", "");
        Check.formDue("int;typedef int;int typedef;", "");
        Check.formDue("int f(){int;}", "f:()i{}");
        Check.formDue("int a;typedef int b;int c=1;", "a:i;#b:i;c:i1 =;");
        Check.formDue("int f(){return;}", "f:()i{^}");
        Check.formDue("int f(){return 1;}", "f:()i{1 ^}");
        Check.formDue("int f(){if(1);}", "f:()i{1 ?;}");
        Check.formDue("int f(){if(1);else;}", "f:()i{1 ?;:;}");
        Check.formDue("int f(){while(1);}", "f:()i{1 %;}");
        Check.formDue("int f(){;{}{;}}", "f:()i{;{}{;}}");
    }

    /** "first what it is made of, in order, then: ..": each sign alone, and the two that are written otherwise */
    private static void formOfSigns() {
        for (String sign : new String[] {"+", "-", "*", "/", "<", "="}) {
            Check.formDue("int a=a" + sign + "1;", "a:ia 1 " + sign + "=;");
        }
        Check.formDue("int a=-a;", "a:ia ~=;");
        Check.formDue("int a=*a;", "a:ia @=;");
        Check.formDue("int a=&a;", "a:ia &=;");
        Check.formDue("int a=!a;", "a:ia !=;");
        Check.formDue("int a=sizeof a;", "a:ia $=;");
        Check.formDue("int a=sizeof(int);", "a:i[i]$=;");
        Check.formDue("int a=(int)a;", "a:ia [i]=;");
        Check.formDue("int a=a[1];", "a:ia 1 ]=;");
        Check.formDue("int a=(1);", "a:i1 =;");
    }

    /** "for a call '(', the number of arguments, ')'" */
    private static void formOfCalls() {
        Check.formDue("int a=a();", "a:ia (0)=;");
        Check.formDue("int a=a(1);", "a:ia 1 (1)=;");
        for (int n : new int[] {9, 10, 11, 75}) {
            Check.formDue("int a=a(1" + ",1".repeat(n - 1) + ");", "a:ia " + "1 ".repeat(n) + "(" + n + ")=;");
        }
    }

    /** Full texts that write the most: the rows for types and the form have room for all of it. */
    private static void formAndTypesOfFullTexts() {
        String ten = "typedef int a,b,c,d,e,f,g,h,i,j,k;";
        int names = (160 - ten.length() - "int x(k);".length()) / 2;
        String many = ten + "int x(k" + ",k".repeat(names) + ");";
        String type = "(10." + ",10.".repeat(names) + ")i";
        TypeOrThing x = Check.read(many);
        Check.due("the length of a long type", x.about(11, 2), type.length());
        Check.due("a long type", Check.type(x, 11), type);
        int casts = (160 - ten.length() - "int x=1;".length()) / 3;
        Check.formDue(ten + "int x=" + "(k)".repeat(casts) + "1;",
            "#a:i;#b:i;#c:i;#d:i;#e:i;#f:i;#g:i;#h:i;#i:i;#j:i;#k:i;x:i1 " + "[10.]".repeat(casts) + "=;");
        Check.formDue("int a=" + "!".repeat(152) + "1;", "a:i1 " + "!".repeat(152) + "=;");
        Check.formDue("int a=1" + "()".repeat(76) + ";", "a:i1 " + "(0)".repeat(76) + "=;");
        Check.formDue("int a=a" + "=a".repeat(76) + ";", "a:i" + "a ".repeat(77) + "=".repeat(77) + ";");
    }
}
