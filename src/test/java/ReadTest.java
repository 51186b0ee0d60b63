import java.util.regex.Matcher;
import java.util.regex.Pattern;

/** Promises 4 and 5: read and at. In the texts that are none, '@' stands before the token AT. */
public final class ReadTest {
    private static final Pattern TOKEN =
        Pattern.compile("[a-z][a-z0-9]{0,7}|[0-9]{1,4}|[^ \n]");

    public static void main(String[] args) {
        tokens();
        unfitTokens();
        outermost();
        specifiers();
        declarators();
        parameters();
        abstracts();
        functions();
        scopes();
        blocks();
        statements();
        expressions();
        places();
        castsAndSizeof();
        openBrackets();
        openStatements();
        longChains();
        readsAnew();
        readsMany();
        Check.end();
    }

    private static int countTokens(String text) {
        Matcher m = TOKEN.matcher(text);
        int count = 0;
        while (m.find()) {
            count++;
        }
        return count;
    }

    private static void refused(String marked) {
        int mark = marked.indexOf('@');
        String before = marked.substring(0, mark);
        Check.atDue(before + marked.substring(mark + 1), countTokens(before));
    }

    private static void program(String text) {
        TypeOrThing x = Check.read(text);
        int tokens = -1;
        try {
            tokens = x.read();
        } catch (IllegalArgumentException e) {
            Check.due("read() again of " + text, "throws", "no exception");
        }
        Check.due("read() of " + text, tokens, countTokens(text));
        Check.due("role behind the last token of " + text, x.role(tokens), -1);
    }

    private static void tokens() {
        program("int a;");
        program("\n int\na\n;\n ");
        program("int*a[12];");
        program("int abcdefgh;");
        program("int a1b2c3d4=1234;");
        program("int inta,int1,voidx,ifelse;");
        program("int x=1-2+3*4/5<6;");
        program("char x=!1;void y=&x;");
        refused("int abcdefgh @ijklm;");
        refused("int abcdefgh@9;");
        // The ninth character is no name of its own, though one would fit.
        refused("typedef int abcdefgh;abcdefgh@x;");
        refused("int typedefa @b;");
        refused("int x=1234@5;");
        refused("int x=12@ab;");
        refused("int x=1234@a;");
        refused("int x=1@ 2;");
        refused("int x @y;");
        refused("int @1;");
        refused("@int1;");
        refused("@in");
        // Not one word: a blank ends it.
        refused("@i nt x;");
        refused("int a@\nb;");
    }

    private static void unfitTokens() {
        String bad = "\"#$%'.:>?@ABZ\\^_`|~";
        for (int i = 0; i < bad.length(); i++) {
            Check.atDue("int " + bad.charAt(i) + "a;", 1);
            Check.atDue("int a;" + bad.charAt(i), 3);
            Check.atDue("int a" + bad.charAt(i) + "b;", 2);
        }
    }

    private static void outermost() {
        program("");
        program(" \n");
        program("int;");
        program("int a,b;char c;void d;");
        refused("@;");
        refused("int a;@;");
        refused("@a;");
        refused("@1;");
        refused("@{}");
        refused("@}");
        refused("@if(1);");
        refused("int f(){}@;");
        refused("int@");
        refused("int a@");
        refused("int a,@");
        refused("int a,@;");
        refused("int a=@");
        refused("int a=@;");
        refused("int a=1@");
        refused("int a@{}");
        refused("int a=1@=2;");
        refused("int a=1 @b;");
    }

    private static void specifiers() {
        program("typedef int t;");
        program("int typedef t;t typedef u;typedef u v;v x;");
        program("typedef int;int typedef;");
        program("typedef int t=1,u=2;");
        program("typedef int t;t;t typedef;");
        refused("typedef@;");
        refused("typedef @typedef int t;");
        refused("typedef int @typedef t;");
        refused("int typedef @typedef t;");
        refused("int @int a;");
        refused("int @char a;");
        refused("typedef @t;");
        refused("typedef int t;t @int a;");
        refused("int a;@a b;");
        refused("typedef int t;t @t;");
        refused("typedef int t;t typedef @t;");
        refused("typedef int t,@t;");
        refused("int @sizeof;");
        refused("@sizeof");
    }

    private static void declarators() {
        program("int**a,*(*b),((c)),(*d)[2],*e[],(*(*g)(int))[3][4];");
        program("int f()(int)[2]();");
        refused("int *@;");
        refused("int(@);");
        refused("int(*@);");
        refused("int(a@;");
        refused("int(a@ b);");
        refused("int(@1);");
        refused("int(@[2]);");
        refused("int@[2];");
        refused("int a[@b];");
        refused("int a[1@ 2];");
        refused("int a[1@+2];");
        refused("int a[@-1];");
        refused("int a[2@;");
        refused("int a[2]@b;");
        refused("int(a)@b;");
        refused("int a@*b;");
        refused("int a;int(*@a)[2];");
        refused("int a,(@a);");
        refused("int(@int);");
        refused("int (a)@)");
    }

    private static void parameters() {
        program("int f(),g(void),h(void*),i(void,int),j(int,void),k(void x),l(void(void));");
        program("int f(int,char*,int[],int[3],int(),int*(*)[2]);");
        program("int f(int a,int b(int a,int b),int c);");
        program("int f(int(x),int(*y),int((z)),int*(w)(int));");
        program("typedef int t;int f(int(t),t(t),t t);");
        program("typedef int t;int f(int(*t));");
        program("typedef int t;int f(int((t)),int(()),int([2]));");
        program("int f(int f);int x(int(x));");
        refused("int f(@,int);");
        refused("int f(int,@);");
        refused("int f(int@;");
        refused("int f(void@;");
        refused("int f(void@");
        refused("int f(@x);");
        refused("int f(@typedef int x);");
        refused("int f(int @typedef x);");
        refused("int f(int x@=1);");
        refused("int f(int x,int @x);");
        refused("int f(int x,int(@x));");
        refused("int f(int x,int(*@x));");
        refused("typedef char t;int f(int t,@t x);");
        refused("typedef int t;int f(int t,int(@t));");
        refused("typedef int t;int f(int t(@1));");
        refused("int f(int x(@x));");
        refused("int f(int x @y);");
        refused("int f(int(x)@y);");
        refused("int f(int(x)(@y));");
        refused("int f(int(x)(@*));");
        refused("int f(int[2](@*));");
        refused("int f(int[2]@x);");
        refused("int f(int(*)@x);");
        refused("int f(int(@1));");
        refused("int f(int(*@int));");
        refused("int f(int((x)@y));");
        refused("int f(int @int);");
        refused("int f(@1);");
    }

    private static void abstracts() {
        program("int x=(int*)1;int y=(int(*)[2])x;int z=(int(*)(int a,int(b)))x;");
        program("int x=(int())1+(int(int))2+(int[])3+(int[2][3])4+(int(()))5;");
        program("int x=sizeof(int(*(*)(void))[2]);");
        program("typedef int t;int x=(int(t))1;");
        refused("int x=(int @x)1;");
        refused("int x=(int* @y)1;");
        refused("int x=(int(@x))1;");
        refused("int x=(int(*@x))1;");
        refused("int x=(int(@y))1;");
        refused("int x=(int(*)@*)1;");
        refused("int x=(int@,int)1;");
        refused("int x=(int@ int)1;");
        refused("int x=(int@ typedef)1;");
        refused("int x=(@typedef int)1;");
        refused("int x=(int(int a,int @a))1;");
    }

    private static void functions() {
        program("int f(){}int*g(int a){a;}int(h)(int a){a;}int((k))(int a){a;}");
        program("int*(*f(int a))(int b){a;}");
        program("int f(int a)(int b){a;}");
        program("int f()[2]{}");
        program("int f(int g()){g();}");
        refused("int(*f)()@{}");
        refused("int f[2]()@{}");
        refused("int(f[2])()@{}");
        refused("typedef int f()@{}");
        refused("int typedef f()@{}");
        refused("int a,f()@{}");
        refused("int f(),g()@{}");
        refused("int f()=1@{}");
        refused("int f()@");
        refused("int f(){@");
        refused("typedef int t();t f@{}");
        refused("int(*g(int a))(int b){a;@b;}");
        refused("int f(int a)(int b){a;@b;}");
        refused("int f(int b(int a)){b;@a;}");
        refused("int f(){int g()@{}}");
    }

    private static void scopes() {
        program("int f(int a){{int a;}}");
        program("int f(int f){f;}");
        program("int f(int a){f;}int g(int a){a;f;}");
        program("typedef int t;int f(t t){t;}t x;");
        program("typedef int t;int f(){t t;t=1;}int g(){t x;x;}");
        program("typedef int t;int f(){t a,t,b;t*b;}");
        program("typedef int t;int f(){t t=t;}");
        program("int f(){typedef int t;{int t;t;}t x;}");
        program("int x=x;int y=x,z=y;");
        refused("int f(int a){int @a;}");
        refused("int f(int a){int b;int @b;}");
        refused("int f(int a){{int a;}int @a;}");
        refused("int f(int a){}int b=@a;");
        refused("int f(){{int a;}@a;}");
        refused("int f(){@a;int a;}");
        refused("int f(){typedef int t;}@t x;");
        refused("typedef int t;int f(int t){t @x;}");
        refused("typedef int t;int f(){int t;t @x;}");
        refused("typedef int t;int f(){t t;t @x;}");
        refused("int f(int a),b=@a;");
        refused("int f();int @f(){}");
        refused("int a=@b,b;");
        refused("int x=@y;");
        refused("int x=(int(*)(int a))1+@a;");
    }

    private static void blocks() {
        program("int f(){int;typedef char c;c x=1,*y;;{}{;}x;}");
        program("typedef int t;int f(){t;t*x;t(y);t(*z)(t);}");
        program("int t;int f(int x){t*x;t(x);(t)*x;}");
        refused("int f(){int x@}");
        refused("int f(){int x=1@}");
        refused("int f(){1@}");
        refused("int f(){1;}@}");
        refused("int f(){{}@");
        refused("typedef int t;int f(){t@=1;}");
        refused("typedef int t;int f(){t@+1;}");
        refused("typedef int t;int f(){t x;t@ 1;}");
        refused("int f(){@,}");
        refused("int f(){@)}");
    }

    private static void statements() {
        program("int f(){if(1);if(1);else;if(1)if(2);else;else;while(1);while(1)while(2){}return;return 1;}");
        program("int f(){if(1){}else if(2){}else{}}");
        refused("int f(){@else;}");
        refused("int f(){if(1);else;@else;}");
        refused("int f(){if(1)if(2);else;else;@else;}");
        refused("int f(){while(1);@else;}");
        refused("int f(){if(1){}else{};@else;}");
        refused("int f(){if@;}");
        refused("int f(){if(@);}");
        refused("int f(){if(1@;}");
        refused("int f(){if(1)@}");
        refused("int f(){if(1)@else;}");
        refused("int f(){if(1)@int x;}");
        refused("int f(){if(1)@typedef int t;}");
        refused("typedef int t;int f(){if(1)@t x;}");
        refused("typedef int t;int f(){while(1)@t;}");
        refused("int f(){if(1);else @int x;}");
        refused("int f(){if(@int)1;}");
        refused("int f(){while @1;}");
        refused("int f(){while(1)@}");
        refused("int f(){return @return;}");
        refused("int f(){return@}");
        refused("int f(){return 1@}");
        refused("int f(){return @int;}");
        refused("int f(){if(1@;)}");
    }

    private static void expressions() {
        program("int f(int a){a<a;a+a-a*a/a;-a;*a;&a;!a;(a);a[a];a();a(a,a<a,a=a);a[1](2)[3];}");
        program("int f(int a){-*&!a;- -a;a- -a;a**a;}");
        program("int f(int a){a=a=a<a;(a<a)<a;a<(a<a);1[a];(1)(a);}");
        refused("int f(int a){a<a@<a;}");
        refused("int f(int a){a=a<a@<a;}");
        refused("int f(int a){a@&a;}");
        refused("int f(int a){a@!a;}");
        refused("int f(int a){a+@;}");
        refused("int f(int a){a+@+a;}");
        refused("int f(int a){a/@/a;}");
        refused("int f(int a){a@ a;}");
        refused("int f(int a){a@ 1;}");
        refused("int f(int a){1@ a;}");
        refused("int f(int a){(@);}");
        refused("int f(int a){(a@;}");
        refused("int f(int a){a[@];}");
        refused("int f(int a){a[a@);}");
        refused("int f(int a){a[1@,2];}");
        refused("int f(int a){a(@,a);}");
        refused("int f(int a){a(a,@);}");
        refused("int f(int a){a(a@;}");
        refused("int f(int a){(a@,a);}");
        refused("int f(int a){a@,a;}");
        refused("int f(int a){a+@int;}");
        refused("typedef int t;int f(){1+@t;}");
        refused("int f(){@b;}");
        refused("int f(){1+@b;}");
        refused("int f(){@+1;}");
        refused("int f(){@/1;}");
        refused("int f(){1@{}}");
        refused("int f(){1+@if;}");
    }

    private static void places() {
        program("int f(int a){a=1;*a=1;*(a)=1;*1=2;**a=1;*-a=1;a[1]=1;a(1)=1;1[2]=3;1()=2;(a)[1]=2;(a)()=3;}");
        program("int f(int a){*(int)a=1;*sizeof a=1;*sizeof(int)=1;*a[1]=2;(a=1);a[a=1];a(a=1);a=*a=a;}");
        refused("int f(int a){1@=2;}");
        refused("int f(int a){(a)@=2;}");
        refused("int f(int a){((a))@=2;}");
        refused("int f(int a){(*a)@=2;}");
        refused("int f(int a){(a[1])@=2;}");
        refused("int f(int a){-a@=2;}");
        refused("int f(int a){&a@=2;}");
        refused("int f(int a){!a@=2;}");
        refused("int f(int a){-*a@=2;}");
        refused("int f(int a){a+a@=2;}");
        refused("int f(int a){a*a@=2;}");
        refused("int f(int a){*a*a@=2;}");
        refused("int f(int a){*a+a@=2;}");
        refused("int f(int a){1+*a@=2;}");
        refused("int f(int a){a<a@=2;}");
        refused("int f(int a){a<*a@=2;}");
        refused("int f(int a){(int)a@=2;}");
        refused("int f(int a){(int)*a@=2;}");
        refused("int f(int a){sizeof a@=2;}");
        refused("int f(int a){sizeof(int)@=2;}");
        refused("int f(int a){sizeof*a@=2;}");
        refused("int f(int a){a=1@=2;}");
        refused("int f(int a){a=a+a@=2;}");
        refused("int f(int a){a=@=2;}");
        refused("int x=1@=2;");
    }

    private static void castsAndSizeof() {
        program("typedef int t;int x=(t)1+(t)(x)-(t)-x*(t)*x/(t)&x<(t)(t)!x;");
        program("typedef int t;int x=sizeof(t)+sizeof(t*)-sizeof x*sizeof(x)/sizeof(x)[1];");
        program("typedef int t;int x=sizeof-(t)x+sizeof sizeof x-sizeof!x*x;");
        program("typedef int t;int x=(t)sizeof(t)*sizeof(t)-1;");
        program("typedef int t;int f(int t){(t)-1;(t)(1);sizeof(t)[1];}");
        refused("typedef int t;int x=(t)@;");
        refused("typedef int t;int x=(t)@+1;");
        refused("typedef int t;int x=(t)@/1;");
        refused("typedef int t;int x=(t@+1);");
        refused("typedef int t;int x=(t@ 1);");
        refused("typedef int t;int x=(t@;");
        refused("typedef int t;int x=sizeof@;");
        refused("typedef int t;int x=sizeof @t;");
        refused("typedef int t;int x=sizeof @int;");
        refused("typedef int t;int x=sizeof(t)@x;");
        refused("typedef int t;int x=sizeof(t)@1;");
        refused("typedef int t;int x=sizeof(t)@(x);");
        refused("typedef int t;int x=sizeof(t)@[1];");
        refused("typedef int t;int x=sizeof sizeof(t)@(x);");
        refused("typedef int t;int x=sizeof(t)@!x;");
        refused("typedef int t;int x=sizeof-(t)@;");
        refused("int t;int x=(t)@1;");
        refused("int t;int x=(t)@x;");
        refused("int x=(@u)1;");
        refused("typedef int t;int x=((t)@);");
    }

    private static void openBrackets() {
        program("int x=((((((((1))))))));");
        refused("int x=((((((((@(1)))))))));");
        refused("int x=((((((((@(");
        refused("int x=((((((((@))))))));");
        program("int((((((((x))))))));");
        refused("int((((((((@(x)))))))));");
        program("int((((((((x))))))))[2];");
        refused("int f(){(((((((@(1))))))));}");
        program("int f(){{{{{{{{}}}}}}}}");
        refused("int f(){{{{{{{{@{}}}}}}}}}");
        program("int f(){((((((1[2]))))));}");
        refused("int f(){(((((((1@[2])))))));}");
        refused("int f(){(((((((1@()))))))));}");
        program("int f(int(*(*(*(*(*(*(*a))))))));");
        refused("int f(int(*(*(*(*(*(*(*@(*a)))))))));");
        refused("int f(int(*(*(*(*(*(*(*a@[2]))))))));");
        program("int f(int(int(int(int(int(int(int(int))))))));");
        refused("int f(int(int(int(int(int(int(int(int@(int)))))))));");
        // Brackets that are closed do not count, and what does not fit at all is refused as ever.
        program("int x=(1)+(2)+(3)+(4)+(5)+(6)+(7)+(8)+(9)+((1));");
        refused("int x=((((((((1@]");
        refused("int x=((((((((@");
        refused("int x=((((((((1@");
    }

    private static void openStatements() {
        program("int f(){if(1)if(1)if(1)if(1)if(1)if(1);}");
        refused("int f(){if(1)if(1)if(1)if(1)if(1)if(1)if@(1);}");
        program("int f(){if(1)if(1)if(1)if(1)if(1)while(1);}");
        refused("int f(){while(1)while(1)while(1)while(1)while(1)while(1)while@(1);}");
        program("int f(){{{{{{if(1);}}}}}}");
        refused("int f(){{{{{{{if@(1);}}}}}}}");
        refused("int f(){{{{{{if(1){@if(1);}}}}}}}");
        refused("int f(){{{{{{{{@if(1);}}}}}}}}");
        refused("int f(){{{{{{{{@while(1);}}}}}}}}");
        program("int f(){{{{{{if(1){}}}}}}}");
        refused("int f(){{{{{{if(1){@{}}}}}}}}");
        refused("int f(){{{{{{if(1)(@(1));}}}}}}");
        refused("int f(){{{{{{while(1){@{}}}}}}}}");
        // An 'if' ends with its first statement, so that its 'else' takes its place.
        program("int f(){{{{{{if(1){}else{}}}}}}}");
        program("int f(){{{{{{if(1);else(1);}}}}}}");
        refused("int f(){{{{{{if(1);else(@(1));}}}}}}");
        program("int f(){{{{{if(1);else if(1);}}}}}");
        refused("int f(){{{{{{if(1);else if@(1);}}}}}}");
        program("int f(){{{{{if(1)if(1);else{}else{{}}}}}}}");
        refused("int f(){{{{{if(1)if(1);else{@{}}}}}}}");
        // Each 'else' stays open in the chain, though every 'if' has ended.
        program("int f(){if(1);else if(1);else if(1);else if(1);else if(1);else if(1);}");
        refused("int f(){if(1);else if(1);else if(1);else if(1);else if(1);else if(1);else if@(1);}");
        // What has ended does not count.
        program("int f(){{{{{{while(1);while(1);if(1);if(1);else;}}}}}}");
    }

    private static void longChains() {
        program("int x=" + "!".repeat(152) + "1;");
        program("int x=" + "-*&!".repeat(38) + "x;");
        refused("int x=" + "!".repeat(153) + "@;");
        program("int x=" + "x=".repeat(75) + "1;");
        program("int x=" + "1+".repeat(76) + "1;");
        program("int x=1" + "()".repeat(76) + ";");
        program("typedef int t;int x=" + "(t)".repeat(46) + "1;");
        program("int x=" + "sizeof ".repeat(21) + "1;");
        program("int" + "*".repeat(155) + "x;");
        program("int x" + "[]".repeat(77) + ";");
        program("int f(){" + ";".repeat(151) + "}");
        program("int;".repeat(40));
        refused("int;".repeat(39) + "int@");
    }

    private static void readsAnew() {
        TypeOrThing x = Check.typed("int a;int a;");
        Check.throwsDue("read()", IllegalArgumentException.class, x::read);
        Check.due("at()", x.at(), 4);
        Check.due("declared()", x.declared(), 0);
        Check.due("length()", x.length(), 0);
        Check.due("role(1)", x.role(1), -1);
        Check.due("meaning(1)", x.meaning(1), -1);
        x.cut(10);
        Check.append(x, "b=a;");
        Check.due("read() of the mended text", x.read(), 8);
        Check.due("at()", x.at(), -1);
        Check.due("form", Check.form(x), "a:i;b:ia =;");
        Check.due("read() again", x.read(), 8);
        Check.due("form again", Check.form(x), "a:i;b:ia =;");
        x.cut(9);
        Check.throwsDue("read() of the cut text", IllegalArgumentException.class, x::read);
        Check.due("at()", x.at(), 4);
        Check.throwsDue("form(0)", IndexOutOfBoundsException.class, () -> x.form(0));
        Check.throwsDue("about(0, 0)", IndexOutOfBoundsException.class, () -> x.about(0, 0));
        Check.due("role(1) behind a text that is none", x.role(1), -1);
        Check.due("meaning(1) behind a text that is none", x.meaning(1), -1);
        x.cut(0);
        Check.due("read() of nothing", x.read(), 0);
        TextTest.nothingIsTold(x, "an empty program behind others");
    }

    /** Nothing of what was read before, a program or not, is left in the next one. */
    private static void readsMany() {
        TypeOrThing x = Check.typed("typedef int t;t f(t a){a;}");
        Check.due("read()", x.read(), 14);
        x.cut(0);
        Check.append(x, "int;int;int;int;int;int;int;int;");
        Check.due("read() of no names", x.read(), 16);
        Check.due("its roles", Check.roles(x, 16), "0".repeat(16));
        Check.due("its meanings", Check.meanings(x, 16), "-".repeat(16));
        for (int i = 0; i < 3; i++) {
            x.cut(0);
            Check.append(x, "int f(int a){((((((" + "!".repeat(140));
            Check.due("AT of many signs", Check.readAt(x), 153);
        }
        x.cut(0);
        Check.append(x, "int f(){((((((-1))))));}int a=(int)!f;");
        Check.due("AT of the next", Check.readAt(x), -1);
        Check.due("its form", Check.form(x), "f:()i{1 ~;}a:if ![i]=;");
    }
}
