/** Promises 6 to 10: role, meaning, declared, about, typeAt. */
public final class NamesTest {
    public static void main(String[] args) {
        roles();
        meanings();
        noSuchToken();
        numbersOfDeclarations();
        depths();
        sorts();
        types();
        typesOfParameters();
        typesOfNames();
        noSuchDeclaration();
        manyDeclarations();
        Check.end();
    }

    private static void rolesDue(String program, String want) {
        TypeOrThing x = Check.read(program);
        Check.due("the roles of " + program, Check.roles(x, want.length()), want);
        Check.due("the role behind the last of " + program, x.role(want.length()), -1);
    }

    private static void meaningsDue(String program, String want) {
        TypeOrThing x = Check.read(program);
        Check.due("the meanings of " + program, Check.meanings(x, want.length()), want);
    }

    private static void roles() {
        rolesDue("int a;", "040");
        rolesDue("typedef int t;t*a=&a;", "0030" + "1040020");
        rolesDue("int typedef t;t typedef u;u;", "0030" + "1030" + "10");
        rolesDue("typedef int t;int f(t,t t){t;}", "0030" + "04010140" + "0200");
        rolesDue("typedef int t;int x=(t)x+sizeof(t*)+1;", "0030" + "040" + "0102" + "000100" + "000");
        rolesDue("int f(){f(f)[f];if(f)return f;while(f);}",
            "04000" + "20200200" + "0020020" + "00200" + "0");
        rolesDue("int x=(int(*)(int y))1;", "040" + "00000004000" + "0");
        rolesDue("int;int f(void);", "00" + "040000");
    }

    private static void meanings() {
        meaningsDue("int a;", "-0-");
        meaningsDue("int f(int a){a;f;}", "-1--0-" + "-0-1--");
        meaningsDue("int a;int f(int a){a;{a;int a;a;}a;}int b=a;",
            "-0-" + "-2--1-" + "-1-" + "-1--3-3--" + "1--" + "-4-0-");
        meaningsDue("typedef int t;t x;int f(t t){t=x;}t y;",
            "--0-" + "01-" + "-3-02-" + "-2-1--" + "04-");
        meaningsDue("int f(int f){f;}int g=f;", "-1--0-" + "-0--" + "-2-1-");
        meaningsDue("int f(int a),g(int a);", "-1--0--3--2--");
    }

    private static void noSuchToken() {
        TypeOrThing x = Check.read("int a;");
        for (int i : new int[] {-1, 3, 4, 159, 160, 161, Integer.MIN_VALUE, Integer.MAX_VALUE}) {
            Check.due("role(" + i + ")", x.role(i), -1);
            Check.due("meaning(" + i + ")", x.meaning(i), -1);
        }
    }

    private static void numbersOfDeclarations() {
        Check.partsDue("", 0, "");
        Check.partsDue("int;typedef int;", 0, "");
        Check.partsDue("int a,b;char c;", 0, "1 3 6");
        // A declarator ends behind its parameters, so these come first.
        Check.partsDue("int f(int a,int,char b(int c)),d;", 0, "4 12 9 1 16");
        Check.partsDue("int(*f(int a))(int b){int c;}", 0, "6 11 3 15");
        Check.partsDue("int x=(int(int a))1,b;", 0, "1 7 12");
        Check.due("declared()", Check.read("int f(int a,int b);").declared(), 3);
    }

    private static void depths() {
        Check.partsDue("int a;typedef int t;", 1, "1 1");
        Check.partsDue("int f(int a,int b(int c));", 1, "2 3 2 1");
        Check.partsDue("int f(int a){int b;{int c;{int d;}int e;}int g;}int h;", 1, "2 1 2 3 4 3 2 1");
        Check.partsDue("int f(){int x=(int(int a))1;}", 1, "1 2 3");
        Check.partsDue("int f(){if(1){int a;}}", 1, "1 3");
        Check.partsDue("int f(){{{{{{{int a;}}}}}}}", 1, "1 8");
        Check.partsDue("int f(){{{{{{{{int a;}}}}}}}}", 1, "1 9");
    }

    private static void sorts() {
        Check.partsDue("int a;typedef int b;int c();typedef int d();", 3, "0 1 2 1");
        Check.partsDue("int*a();int(*b)();int(c)();int(((d)))();int(*(e))();int(*g())();", 3, "2 0 2 2 0 2");
        Check.partsDue("int a[2]();int b()[2];int(c[2])();int(d())[2];", 3, "0 2 0 2");
        Check.partsDue("int f(int g(),int h,int(*i)(),int(j)(void));", 3, "2 0 0 2 2");
        Check.partsDue("int f(){int g();int h=1;}", 3, "2 2 0");
        Check.partsDue("typedef int t();t a;", 3, "1 0");
        Check.partsDue("int f()=1,g()=2;", 3, "2 2");
    }

    private static void types() {
        Check.typesDue("int a;char b;void c;", "i c v");
        Check.typesDue("int*a,**b,c;", "*i **i i");
        Check.typesDue("int a[],b[2],c[12][0034];", "[]i [2]i [12][0034]i");
        Check.typesDue("int*a[2],(*b)[2],*(*c)[2],(*(d[1]))[2];", "[2]*i *[2]i *[2]*i [1]*[2]i");
        Check.typesDue("int f(),*g(void),(*h)(),(*(*k)[3])();", "()i ()*i *()i *[3]*()i");
        Check.typesDue("int((a)),(*(*(*b)));", "i ***i");
        Check.typesDue("int**(*(**a[1])[2])[3],f()()[4];", "[1]**[2]*[3]**i ()()[4]i");
        Check.partsDue("int a;int*(*b)[12];", 2, "1 7");
    }

    private static void typesOfParameters() {
        Check.typesDue("int f(int,char*,void);", "(i,*c,v)i");
        Check.typesDue("int f(void*),g(void,int),h(void(void));", "(*v)i (v,i)i (()v)i");
        Check.typesDue("int f(int a,char*b[2]);", "i [2]*c (i,[2]*c)i");
        Check.typesDue("int f(int(*a)(char b),int);", "c *(c)i (*(c)i,i)i");
        Check.typesDue("int f(int(),int(*)[2],int([2]),int(()),int(*()));", "(()i,*[2]i,[2]i,()i,()*i)i");
        Check.typesDue("int f(int(a),int((b)));", "i i (i,i)i");
        Check.typesDue("int f(int())(char)[2];", "(()i)(c)[2]i");
    }

    private static void typesOfNames() {
        Check.typesDue("typedef int t;t a,*b,c[2];", "i 0. *0. [2]0.");
        Check.typesDue("typedef int t;typedef t*u;u f(t,u a);", "i *0. 1. (0.,1.)1.");
        Check.typesDue("typedef int t;int f(int(t),t(t),t(u));", "i 0. ((0.)i,(0.)0.,0.)i");
        Check.typesDue("typedef int t;int f(t(*t)(t));", "i *(0.)0. (*(0.)0.)i");
        Check.typesDue("typedef int t;int f(){t a,t,b;}", "i ()i 0. 0. 0.");
        Check.typesDue("typedef int t;int f(){typedef char t;t a;}t b;", "i ()i c 2. 0.");
        Check.typesDue("int a,b,c,d,e,f,g,h,i,j;typedef int t;t x;t*y(t);",
            "i i i i i i i i i i i 10. (10.)*10.");
    }

    private static void noSuchDeclaration() {
        TypeOrThing x = Check.read("int a;char*b;");
        Check.due("about(1, 0)", x.about(1, 0), 5);
        Check.due("typeAt(1, 1)", x.typeAt(1, 1), (int) 'c');
        for (int i : new int[] {-1, 2, 3, 80, 160, Integer.MIN_VALUE, Integer.MAX_VALUE}) {
            Check.outOfBounds("about(" + i + ", 0)", () -> x.about(i, 0));
            Check.outOfBounds("typeAt(" + i + ", 0)", () -> x.typeAt(i, 0));
            Check.outOfBounds("typeAt(1, " + i + ")", () -> x.typeAt(1, i));
        }
        Check.outOfBounds("typeAt(0, 1)", () -> x.typeAt(0, 1));
        for (int part : new int[] {-1, 4, 5, Integer.MIN_VALUE, Integer.MAX_VALUE}) {
            Check.outOfBounds("about(0, " + part + ")", () -> x.about(0, part));
            Check.outOfBounds("about(9, " + part + ")", () -> x.about(9, part));
        }
    }

    /** As many declarations as a text holds, with numbers of two digits, and all that they write. */
    private static void manyDeclarations() {
        String letters = "abcdeghijklmnopqrsuvwxyz";
        StringBuilder program = new StringBuilder("typedef int t;t typedef ");
        StringBuilder form = new StringBuilder("#t:i;");
        for (int i = 0; i < letters.length(); i++) {
            program.append(letters.charAt(i)).append(i + 1 < letters.length() ? "," : ";");
            form.append('#').append(letters.charAt(i)).append(":0.;");
        }
        program.append("z f(){z typedef t");
        form.append("f:()24.{#t:24.;");
        for (int i = 0; i < letters.length() && program.length() + 4 <= 160; i++) {
            program.append(',').append(letters.charAt(i));
            form.append('#').append(letters.charAt(i)).append(":24.;");
        }
        program.append(";}");
        form.append('}');
        TypeOrThing x = Check.read(program.toString());
        Check.due("the form of many declarations", Check.form(x), form.toString());
        Check.due("the type of the last", Check.type(x, x.declared() - 1), "24.");
    }
}
