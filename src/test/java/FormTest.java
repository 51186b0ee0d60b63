/** Promises 11 and 12: length and form. */
public final class FormTest {
    public static void main(String[] args) {
        declarations();
        blocks();
        statements();
        atoms();
        operators();
        assignments();
        prefixes();
        casts();
        calls();
        characters();
        Check.end();
    }

    /** The form of an expression, in a program that has the things a, b, c and the type t. */
    private static void expressionDue(String expression, String want) {
        String before = "typedef int t;int a,b,c=";
        Check.formDue(before + expression + ";", "#t:i;a:i;b:i;c:i" + want + "=;");
        Check.formDue("typedef int t;int f(t a,t b){" + expression + ";}", "#t:i;f:(0.,0.)i{" + want + ";}");
    }

    private static void declarations() {
        Check.formDue("", "");
        Check.formDue("int;typedef char;int typedef;", "");
        Check.formDue("int a;", "a:i;");
        Check.formDue("typedef int t,*u;", "#t:i;#u:*i;");
        Check.formDue("int typedef t;t;t a;", "#t:i;a:0.;");
        Check.formDue("int a,*b=1,c[2];", "a:i;b:*i1 =;c:[2]i;");
        Check.formDue("typedef int t=1;", "#t:i1 =;");
        Check.formDue("int*(*abcdefgh)(int x,int(*)(void))[1];", "abcdefgh:*(i,*()i)[1]*i;");
        Check.formDue("int f(int a);", "f:(i)i;");
    }

    private static void blocks() {
        Check.formDue("int f(){}", "f:()i{}");
        Check.formDue("int f(int a){int;}int b;", "f:(i)i{}b:i;");
        Check.formDue("int f(){int a;typedef int t;t b=a;{}{;}{{}}}", "f:()i{a:i;#t:i;b:2.a =;{}{;}{{}}}");
        Check.formDue("typedef int t;int f(t){int t;t*t;}", "#t:i;f:(0.)i{t:i;t t *;}");
        Check.formDue("typedef int t;int f(){t*t;t*t;}", "#t:i;f:()i{t:*0.;t t *;}");
    }

    private static void statements() {
        Check.formDue("int f(){;1;return;return 1;}", "f:()i{;1 ;^1 ^}");
        Check.formDue("int f(){if(1);}", "f:()i{1 ?;}");
        Check.formDue("int f(){if(1)2;else 3;}", "f:()i{1 ?2 ;:3 ;}");
        Check.formDue("int f(){if(1)if(2)3;else 4;}", "f:()i{1 ?2 ?3 ;:4 ;}");
        Check.formDue("int f(){if(1)if(2);else{}else return;}", "f:()i{1 ?2 ?;:{}:^}");
        Check.formDue("int f(){if(1){if(2);}else;}", "f:()i{1 ?{2 ?;}:;}");
        Check.formDue("int f(){if(1)while(2)if(3);else;}", "f:()i{1 ?2 %3 ?;:;}");
        Check.formDue("int f(){while(1<2)while(3)return 4+5;}", "f:()i{1 2 <%3 %4 5 +^}");
    }

    private static void atoms() {
        expressionDue("1", "1 ");
        expressionDue("0012", "0012 ");
        expressionDue("a", "a ");
        expressionDue("((a))", "a ");
        Check.formDue("int abcdefgh=abcdefgh;", "abcdefgh:iabcdefgh =;");
    }

    private static void operators() {
        expressionDue("a+b", "a b +");
        expressionDue("a+b-1", "a b +1 -");
        expressionDue("a-(b-1)", "a b 1 --");
        expressionDue("a+b*2-3/4", "a b 2 *+3 4 /-");
        expressionDue("a*b/2*3", "a b *2 /3 *");
        expressionDue("a*(b+1)", "a b 1 +*");
        expressionDue("a+1<b*2", "a 1 +b 2 *<");
        expressionDue("(a<b)<(1<2)", "a b <1 2 <<");
    }

    private static void assignments() {
        expressionDue("a=b", "a b =");
        expressionDue("a=b=1", "a b 1 ==");
        expressionDue("a=b=1<2", "a b 1 2 <==");
        expressionDue("*a=b+1", "a @b 1 +=");
        expressionDue("a[1]=(b=2)", "a 1 ]b 2 ==");
        expressionDue("a+(b=1)", "a b 1 =+");
    }

    private static void prefixes() {
        expressionDue("-a", "a ~");
        expressionDue("*a", "a @");
        expressionDue("&a", "a &");
        expressionDue("!a", "a !");
        expressionDue("-*&!a", "a !&@~");
        expressionDue("-a*-b", "a ~b ~*");
        expressionDue("a**b", "a b @*");
        expressionDue("a- -b", "a b ~-");
        expressionDue("-a[1]", "a 1 ]~");
        expressionDue("*a(1)", "a 1 (1)@");
        expressionDue("(*a)(1)", "a @1 (1)");
        expressionDue("-(a+b)", "a b +~");
    }

    private static void casts() {
        expressionDue("(t)a", "a [0.]");
        expressionDue("(int)(char*)(void(*)(int))a", "a [*(i)v][*c][i]");
        expressionDue("(t)-a", "a ~[0.]");
        expressionDue("-(t)a", "a [0.]~");
        expressionDue("(t)*a", "a @[0.]");
        expressionDue("(a)*b", "a b *");
        expressionDue("(t)a*b", "a [0.]b *");
        expressionDue("(t)a[1]", "a 1 ][0.]");
        expressionDue("(t)(a+(int)b)", "a b [i]+[0.]");
        expressionDue("sizeof a", "a $");
        expressionDue("sizeof(a)", "a $");
        expressionDue("sizeof(a)[1]", "a 1 ]$");
        expressionDue("sizeof(t)", "[0.]$");
        expressionDue("sizeof(int(*)[2])", "[*[2]i]$");
        expressionDue("sizeof(t)*a", "[0.]$a *");
        expressionDue("sizeof*a", "a @$");
        expressionDue("sizeof sizeof(t)", "[0.]$$");
        expressionDue("sizeof-(t)a", "a [0.]~$");
        expressionDue("(t)sizeof(t)-1", "[0.]$[0.]1 -");
        expressionDue("sizeof a*b", "a $b *");
    }

    private static void calls() {
        expressionDue("a()", "a (0)");
        expressionDue("a(b)", "a b (1)");
        expressionDue("a(b,1+2,b=3)", "a b 1 2 +b 3 =(3)");
        expressionDue("a()(1)[2]", "a (0)1 (1)2 ]");
        expressionDue("a[b[1]]", "a b 1 ]]");
        expressionDue("a(b(1),(2))", "a b 1 (1)2 (2)");
        expressionDue("a(1,2,3,4,5,6,7,8,9,0)", "a 1 2 3 4 5 6 7 8 9 0 (10)");
        expressionDue("1[2](3)", "1 2 ]3 (1)");
        Check.formDue("int a=a(1" + ",1".repeat(74) + ");", "a:ia " + "1 ".repeat(75) + "(75)=;");
    }

    private static void characters() {
        TypeOrThing x = Check.read("int a;");
        Check.due("length()", x.length(), 4);
        Check.due("form(0)", x.form(0), (int) 'a');
        Check.due("form(3)", x.form(3), (int) ';');
        for (int i : new int[] {-1, 4, 5, 640, Integer.MIN_VALUE, Integer.MAX_VALUE}) {
            Check.outOfBounds("form(" + i + ")", () -> x.form(i));
        }
    }
}
