/** Promises 4 and 5: read and at. In the texts that are none, '@' stands before the token AT. */
public final class ReadTest {
    public static void main(String[] args) {
        tokens();
        unfitTokens();
        outermost();
        specifiers();
        declarators();
        parameters();
        abstracts();
        functions();
        scopes();
        blocks();
        statements();
        expressions();
        places();
        castsAndSizeof();
        openBrackets();
        openStatements();
        longChains();
        readsAnew();
        readsMany();
        Check.end();
    }

    private static void tokens() {
        Check.program("int a;");
        Check.program("\n int\na\n;\n ");
        Check.program("int*a[12];");
        Check.program("int abcdefgh;");
        Check.program("int a1b2c3d4=1234;");
        Check.program("int inta,int1,voidx,ifelse;");
        Check.program("int x=1-2+3*4/5<6;");
        Check.program("char x=!1;void y=&x;");
        Check.refused("int abcdefgh @ijklm;");
        Check.refused("int abcdefgh@9;");
        // The ninth character is no name of its own, though one would fit.
        Check.refused("typedef int abcdefgh;abcdefgh@x;");
        Check.refused("int typedefa @b;");
        Check.refused("int x=1234@5;");
        Check.refused("int x=12@ab;");
        Check.refused("int x=1234@a;");
        Check.refused("int x=1@ 2;");
        Check.refused("int x @y;");
        Check.refused("int @1;");
        Check.refused("@int1;");
        Check.refused("@in");
        // Not one word: a blank ends it.
        Check.refused("@i nt x;");
        Check.refused("int a@\nb;");
    }

    private static void unfitTokens() {
        String bad = "\"#$%'.:>?@ABZ\\^_`|~";
        for (int i = 0; i < bad.length(); i++) {
            Check.atDue("int " + bad.charAt(i) + "a;", 1);
            Check.atDue("int a;" + bad.charAt(i), 3);
            Check.atDue("int a" + bad.charAt(i) + "b;", 2);
        }
    }

    private static void outermost() {
        Check.program("");
        Check.program(" \n");
        Check.program("int;");
        Check.program("int a,b;char c;void d;");
        Check.refused("@;");
        Check.refused("int a;@;");
        Check.refused("@a;");
        Check.refused("@1;");
        Check.refused("@{}");
        Check.refused("@}");
        Check.refused("@if(1);");
        Check.refused("int f(){}@;");
        Check.refused("int@");
        Check.refused("int a@");
        Check.refused("int a,@");
        Check.refused("int a,@;");
        Check.refused("int a=@");
        Check.refused("int a=@;");
        Check.refused("int a=1@");
        Check.refused("int a@{}");
        Check.refused("int a=1@=2;");
        Check.refused("int a=1 @b;");
    }

    private static void specifiers() {
        Check.program("typedef int t;");
        Check.program("int typedef t;t typedef u;typedef u v;v x;");
        Check.program("typedef int;int typedef;");
        Check.program("typedef int t=1,u=2;");
        Check.program("typedef int t;t;t typedef;");
        Check.refused("typedef@;");
        Check.refused("typedef @typedef int t;");
        Check.refused("typedef int @typedef t;");
        Check.refused("int typedef @typedef t;");
        Check.refused("int @int a;");
        Check.refused("int @char a;");
        Check.refused("typedef @t;");
        Check.refused("typedef int t;t @int a;");
        Check.refused("int a;@a b;");
        Check.refused("typedef int t;t @t;");
        Check.refused("typedef int t;t typedef @t;");
        Check.refused("typedef int t,@t;");
        Check.refused("int @sizeof;");
        Check.refused("@sizeof");
    }

    private static void declarators() {
        Check.program("int**a,*(*b),((c)),(*d)[2],*e[],(*(*g)(int))[3][4];");
        Check.program("int f()(int)[2]();");
        Check.refused("int *@;");
        Check.refused("int(@);");
        Check.refused("int(*@);");
        Check.refused("int(a@;");
        Check.refused("int(a@ b);");
        Check.refused("int(@1);");
        Check.refused("int(@[2]);");
        Check.refused("int@[2];");
        Check.refused("int a[@b];");
        Check.refused("int a[1@ 2];");
        Check.refused("int a[1@+2];");
        Check.refused("int a[@-1];");
        Check.refused("int a[2@;");
        Check.refused("int a[2]@b;");
        Check.refused("int(a)@b;");
        Check.refused("int a@*b;");
        Check.refused("int a;int(*@a)[2];");
        Check.refused("int a,(@a);");
        Check.refused("int(@int);");
        Check.refused("int (a)@)");
    }

    private static void parameters() {
        Check.program("int f(),g(void),h(void*),i(void,int),j(int,void),k(void x),l(void(void));");
        Check.program("int f(int,char*,int[],int[3],int(),int*(*)[2]);");
        Check.program("int f(int a,int b(int a,int b),int c);");
        Check.program("int f(int(x),int(*y),int((z)),int*(w)(int));");
        Check.program("typedef int t;int f(int(t),t(t),t t);");
        Check.program("typedef int t;int f(int(*t));");
        Check.program("typedef int t;int f(int((t)),int(()),int([2]));");
        Check.program("int f(int f);int x(int(x));");
        Check.refused("int f(@,int);");
        Check.refused("int f(int,@);");
        Check.refused("int f(int@;");
        Check.refused("int f(void@;");
        Check.refused("int f(void@");
        Check.refused("int f(@x);");
        Check.refused("int f(@typedef int x);");
        Check.refused("int f(int @typedef x);");
        Check.refused("int f(int x@=1);");
        Check.refused("int f(int x,int @x);");
        Check.refused("int f(int x,int(@x));");
        Check.refused("int f(int x,int(*@x));");
        Check.refused("typedef char t;int f(int t,@t x);");
        Check.refused("typedef int t;int f(int t,int(@t));");
        Check.refused("typedef int t;int f(int t(@1));");
        Check.refused("int f(int x(@x));");
        Check.refused("int f(int x @y);");
        Check.refused("int f(int(x)@y);");
        Check.refused("int f(int(x)(@y));");
        Check.refused("int f(int(x)(@*));");
        Check.refused("int f(int[2](@*));");
        Check.refused("int f(int[2]@x);");
        Check.refused("int f(int(*)@x);");
        Check.refused("int f(int(@1));");
        Check.refused("int f(int(*@int));");
        Check.refused("int f(int((x)@y));");
        Check.refused("int f(int @int);");
        Check.refused("int f(@1);");
    }

    private static void abstracts() {
        Check.program("int x=(int*)1;int y=(int(*)[2])x;int z=(int(*)(int a,int(b)))x;");
        Check.program("int x=(int())1+(int(int))2+(int[])3+(int[2][3])4+(int(()))5;");
        Check.program("int x=sizeof(int(*(*)(void))[2]);");
        Check.program("typedef int t;int x=(int(t))1;");
        Check.refused("int x=(int @x)1;");
        Check.refused("int x=(int* @y)1;");
        Check.refused("int x=(int(@x))1;");
        Check.refused("int x=(int(*@x))1;");
        Check.refused("int x=(int(@y))1;");
        Check.refused("int x=(int(*)@*)1;");
        Check.refused("int x=(int@,int)1;");
        Check.refused("int x=(int@ int)1;");
        Check.refused("int x=(int@ typedef)1;");
        Check.refused("int x=(@typedef int)1;");
        Check.refused("int x=(int(int a,int @a))1;");
    }

    private static void functions() {
        Check.program("int f(){}int*g(int a){a;}int(h)(int a){a;}int((k))(int a){a;}");
        Check.program("int*(*f(int a))(int b){a;}");
        Check.program("int f(int a)(int b){a;}");
        Check.program("int f()[2]{}");
        Check.program("int f(int g()){g();}");
        Check.refused("int(*f)()@{}");
        Check.refused("int f[2]()@{}");
        Check.refused("int(f[2])()@{}");
        Check.refused("typedef int f()@{}");
        Check.refused("int typedef f()@{}");
        Check.refused("int a,f()@{}");
        Check.refused("int f(),g()@{}");
        Check.refused("int f()=1@{}");
        Check.refused("int f()@");
        Check.refused("int f(){@");
        Check.refused("typedef int t();t f@{}");
        Check.refused("int(*g(int a))(int b){a;@b;}");
        Check.refused("int f(int a)(int b){a;@b;}");
        Check.refused("int f(int b(int a)){b;@a;}");
        Check.refused("int f(){int g()@{}}");
    }

    private static void scopes() {
        Check.program("int f(int a){{int a;}}");
        Check.program("int f(int f){f;}");
        Check.program("int f(int a){f;}int g(int a){a;f;}");
        Check.program("typedef int t;int f(t t){t;}t x;");
        Check.program("typedef int t;int f(){t t;t=1;}int g(){t x;x;}");
        Check.program("typedef int t;int f(){t a,t,b;t*b;}");
        Check.program("typedef int t;int f(){t t=t;}");
        Check.program("int f(){typedef int t;{int t;t;}t x;}");
        Check.program("int x=x;int y=x,z=y;");
        Check.refused("int f(int a){int @a;}");
        Check.refused("int f(int a){int b;int @b;}");
        Check.refused("int f(int a){{int a;}int @a;}");
        Check.refused("int f(int a){}int b=@a;");
        Check.refused("int f(){{int a;}@a;}");
        Check.refused("int f(){@a;int a;}");
        Check.refused("int f(){typedef int t;}@t x;");
        Check.refused("typedef int t;int f(int t){t @x;}");
        Check.refused("typedef int t;int f(){int t;t @x;}");
        Check.refused("typedef int t;int f(){t t;t @x;}");
        Check.refused("int f(int a),b=@a;");
        Check.refused("int f();int @f(){}");
        Check.refused("int a=@b,b;");
        Check.refused("int x=@y;");
        Check.refused("int x=(int(*)(int a))1+@a;");
    }

    private static void blocks() {
        Check.program("int f(){int;typedef char c;c x=1,*y;;{}{;}x;}");
        Check.program("typedef int t;int f(){t;t*x;t(y);t(*z)(t);}");
        Check.program("int t;int f(int x){t*x;t(x);(t)*x;}");
        Check.refused("int f(){int x@}");
        Check.refused("int f(){int x=1@}");
        Check.refused("int f(){1@}");
        Check.refused("int f(){1;}@}");
        Check.refused("int f(){{}@");
        Check.refused("typedef int t;int f(){t@=1;}");
        Check.refused("typedef int t;int f(){t@+1;}");
        Check.refused("typedef int t;int f(){t x;t@ 1;}");
        Check.refused("int f(){@,}");
        Check.refused("int f(){@)}");
    }

    private static void statements() {
        Check.program("int f(){if(1);if(1);else;if(1)if(2);else;else;while(1);while(1)while(2){}return;return 1;}");
        Check.program("int f(){if(1){}else if(2){}else{}}");
        Check.refused("int f(){@else;}");
        Check.refused("int f(){if(1);else;@else;}");
        Check.refused("int f(){if(1)if(2);else;else;@else;}");
        Check.refused("int f(){while(1);@else;}");
        Check.refused("int f(){if(1){}else{};@else;}");
        Check.refused("int f(){if@;}");
        Check.refused("int f(){if(@);}");
        Check.refused("int f(){if(1@;}");
        Check.refused("int f(){if(1)@}");
        Check.refused("int f(){if(1)@else;}");
        Check.refused("int f(){if(1)@int x;}");
        Check.refused("int f(){if(1)@typedef int t;}");
        Check.refused("typedef int t;int f(){if(1)@t x;}");
        Check.refused("typedef int t;int f(){while(1)@t;}");
        Check.refused("int f(){if(1);else @int x;}");
        Check.refused("int f(){if(@int)1;}");
        Check.refused("int f(){while @1;}");
        Check.refused("int f(){while(1)@}");
        Check.refused("int f(){return @return;}");
        Check.refused("int f(){return@}");
        Check.refused("int f(){return 1@}");
        Check.refused("int f(){return @int;}");
        Check.refused("int f(){if(1@;)}");
    }

    private static void expressions() {
        Check.program("int f(int a){a<a;a+a-a*a/a;-a;*a;&a;!a;(a);a[a];a();a(a,a<a,a=a);a[1](2)[3];}");
        Check.program("int f(int a){-*&!a;- -a;a- -a;a**a;}");
        Check.program("int f(int a){a=a=a<a;(a<a)<a;a<(a<a);1[a];(1)(a);}");
        Check.refused("int f(int a){a<a@<a;}");
        Check.refused("int f(int a){a=a<a@<a;}");
        Check.refused("int f(int a){a@&a;}");
        Check.refused("int f(int a){a@!a;}");
        Check.refused("int f(int a){a+@;}");
        Check.refused("int f(int a){a+@+a;}");
        Check.refused("int f(int a){a/@/a;}");
        Check.refused("int f(int a){a@ a;}");
        Check.refused("int f(int a){a@ 1;}");
        Check.refused("int f(int a){1@ a;}");
        Check.refused("int f(int a){(@);}");
        Check.refused("int f(int a){(a@;}");
        Check.refused("int f(int a){a[@];}");
        Check.refused("int f(int a){a[a@);}");
        Check.refused("int f(int a){a[1@,2];}");
        Check.refused("int f(int a){a(@,a);}");
        Check.refused("int f(int a){a(a,@);}");
        Check.refused("int f(int a){a(a@;}");
        Check.refused("int f(int a){(a@,a);}");
        Check.refused("int f(int a){a@,a;}");
        Check.refused("int f(int a){a+@int;}");
        Check.refused("typedef int t;int f(){1+@t;}");
        Check.refused("int f(){@b;}");
        Check.refused("int f(){1+@b;}");
        Check.refused("int f(){@+1;}");
        Check.refused("int f(){@/1;}");
        Check.refused("int f(){1@{}}");
        Check.refused("int f(){1+@if;}");
    }

    private static void places() {
        Check.program("int f(int a){a=1;*a=1;*(a)=1;*1=2;**a=1;*-a=1;a[1]=1;a(1)=1;1[2]=3;1()=2;(a)[1]=2;(a)()=3;}");
        Check.program("int f(int a){*(int)a=1;*sizeof a=1;*sizeof(int)=1;*a[1]=2;(a=1);a[a=1];a(a=1);a=*a=a;}");
        Check.refused("int f(int a){1@=2;}");
        Check.refused("int f(int a){(a)@=2;}");
        Check.refused("int f(int a){((a))@=2;}");
        Check.refused("int f(int a){(*a)@=2;}");
        Check.refused("int f(int a){(a[1])@=2;}");
        Check.refused("int f(int a){-a@=2;}");
        Check.refused("int f(int a){&a@=2;}");
        Check.refused("int f(int a){!a@=2;}");
        Check.refused("int f(int a){-*a@=2;}");
        Check.refused("int f(int a){a+a@=2;}");
        Check.refused("int f(int a){a*a@=2;}");
        Check.refused("int f(int a){*a*a@=2;}");
        Check.refused("int f(int a){*a+a@=2;}");
        Check.refused("int f(int a){1+*a@=2;}");
        Check.refused("int f(int a){a<a@=2;}");
        Check.refused("int f(int a){a<*a@=2;}");
        Check.refused("int f(int a){(int)a@=2;}");
        Check.refused("int f(int a){(int)*a@=2;}");
        Check.refused("int f(int a){sizeof a@=2;}");
        Check.refused("int f(int a){sizeof(int)@=2;}");
        Check.refused("int f(int a){sizeof*a@=2;}");
        Check.refused("int f(int a){a=1@=2;}");
        Check.refused("int f(int a){a=a+a@=2;}");
        Check.refused("int f(int a){a=@=2;}");
        Check.refused("int x=1@=2;");
    }

    private static void castsAndSizeof() {
        Check.program("typedef int t;int x=(t)1+(t)(x)-(t)-x*(t)*x/(t)&x<(t)(t)!x;");
        Check.program("typedef int t;int x=sizeof(t)+sizeof(t*)-sizeof x*sizeof(x)/sizeof(x)[1];");
        Check.program("typedef int t;int x=sizeof-(t)x+sizeof sizeof x-sizeof!x*x;");
        Check.program("typedef int t;int x=(t)sizeof(t)*sizeof(t)-1;");
        Check.program("typedef int t;int f(int t){(t)-1;(t)(1);sizeof(t)[1];}");
        Check.refused("typedef int t;int x=(t)@;");
        Check.refused("typedef int t;int x=(t)@+1;");
        Check.refused("typedef int t;int x=(t)@/1;");
        Check.refused("typedef int t;int x=(t@+1);");
        Check.refused("typedef int t;int x=(t@ 1);");
        Check.refused("typedef int t;int x=(t@;");
        Check.refused("typedef int t;int x=sizeof@;");
        Check.refused("typedef int t;int x=sizeof @t;");
        Check.refused("typedef int t;int x=sizeof @int;");
        Check.refused("typedef int t;int x=sizeof(t)@x;");
        Check.refused("typedef int t;int x=sizeof(t)@1;");
        Check.refused("typedef int t;int x=sizeof(t)@(x);");
        Check.refused("typedef int t;int x=sizeof(t)@[1];");
        Check.refused("typedef int t;int x=sizeof sizeof(t)@(x);");
        Check.refused("typedef int t;int x=sizeof(t)@!x;");
        Check.refused("typedef int t;int x=sizeof-(t)@;");
        Check.refused("int t;int x=(t)@1;");
        Check.refused("int t;int x=(t)@x;");
        Check.refused("int x=(@u)1;");
        Check.refused("typedef int t;int x=((t)@);");
    }

    private static void openBrackets() {
        Check.program("int x=((((((((1))))))));");
        Check.refused("int x=((((((((@(1)))))))));");
        Check.refused("int x=((((((((@(");
        Check.refused("int x=((((((((@))))))));");
        Check.program("int((((((((x))))))));");
        Check.refused("int((((((((@(x)))))))));");
        Check.program("int((((((((x))))))))[2];");
        Check.refused("int f(){(((((((@(1))))))));}");
        Check.program("int f(){{{{{{{{}}}}}}}}");
        Check.refused("int f(){{{{{{{{@{}}}}}}}}}");
        Check.program("int f(){((((((1[2]))))));}");
        Check.refused("int f(){(((((((1@[2])))))));}");
        Check.refused("int f(){(((((((1@()))))))));}");
        Check.program("int f(int(*(*(*(*(*(*(*a))))))));");
        Check.refused("int f(int(*(*(*(*(*(*(*@(*a)))))))));");
        Check.refused("int f(int(*(*(*(*(*(*(*a@[2]))))))));");
        Check.program("int f(int(int(int(int(int(int(int(int))))))));");
        Check.refused("int f(int(int(int(int(int(int(int(int@(int)))))))));");
        // Brackets that are closed do not count, and what does not fit at all is refused as ever.
        Check.program("int x=(1)+(2)+(3)+(4)+(5)+(6)+(7)+(8)+(9)+((1));");
        Check.refused("int x=((((((((1@]");
        Check.refused("int x=((((((((@");
        Check.refused("int x=((((((((1@");
    }

    private static void openStatements() {
        Check.program("int f(){if(1)if(1)if(1)if(1)if(1)if(1);}");
        Check.refused("int f(){if(1)if(1)if(1)if(1)if(1)if(1)if@(1);}");
        Check.program("int f(){if(1)if(1)if(1)if(1)if(1)while(1);}");
        Check.refused("int f(){while(1)while(1)while(1)while(1)while(1)while(1)while@(1);}");
        Check.program("int f(){{{{{{if(1);}}}}}}");
        Check.refused("int f(){{{{{{{if@(1);}}}}}}}");
        Check.refused("int f(){{{{{{if(1){@if(1);}}}}}}}");
        Check.refused("int f(){{{{{{{{@if(1);}}}}}}}}");
        Check.refused("int f(){{{{{{{{@while(1);}}}}}}}}");
        Check.program("int f(){{{{{{if(1){}}}}}}}");
        Check.refused("int f(){{{{{{if(1){@{}}}}}}}}");
        Check.refused("int f(){{{{{{if(1)(@(1));}}}}}}");
        Check.refused("int f(){{{{{{while(1){@{}}}}}}}}");
        // An 'if' ends with its first statement, so that its 'else' takes its place.
        Check.program("int f(){{{{{{if(1){}else{}}}}}}}");
        Check.program("int f(){{{{{{if(1);else(1);}}}}}}");
        Check.refused("int f(){{{{{{if(1);else(@(1));}}}}}}");
        Check.program("int f(){{{{{if(1);else if(1);}}}}}");
        Check.refused("int f(){{{{{{if(1);else if@(1);}}}}}}");
        Check.program("int f(){{{{{if(1)if(1);else{}else{{}}}}}}}");
        Check.refused("int f(){{{{{if(1)if(1);else{@{}}}}}}}");
        // Each 'else' stays open in the chain, though every 'if' has ended.
        Check.program("int f(){if(1);else if(1);else if(1);else if(1);else if(1);else if(1);}");
        Check.refused("int f(){if(1);else if(1);else if(1);else if(1);else if(1);else if(1);else if@(1);}");
        // What has ended does not count.
        Check.program("int f(){{{{{{while(1);while(1);if(1);if(1);else;}}}}}}");
    }

    private static void longChains() {
        Check.program("int x=" + "!".repeat(152) + "1;");
        Check.program("int x=" + "-*&!".repeat(38) + "x;");
        Check.refused("int x=" + "!".repeat(153) + "@;");
        Check.program("int x=" + "x=".repeat(75) + "1;");
        Check.program("int x=" + "1+".repeat(76) + "1;");
        Check.program("int x=1" + "()".repeat(76) + ";");
        Check.program("typedef int t;int x=" + "(t)".repeat(46) + "1;");
        Check.program("int x=" + "sizeof ".repeat(21) + "1;");
        Check.program("int" + "*".repeat(155) + "x;");
        Check.program("int x" + "[]".repeat(77) + ";");
        Check.program("int f(){" + ";".repeat(151) + "}");
        Check.program("int;".repeat(40));
        Check.refused("int;".repeat(39) + "int@");
    }

    private static void readsAnew() {
        TypeOrThing x = Check.typed("int a;int a;");
        Check.throwsDue("read()", IllegalArgumentException.class, x::read);
        Check.due("at()", x.at(), 4);
        Check.due("declared()", x.declared(), 0);
        Check.due("length()", x.length(), 0);
        Check.due("role(1)", x.role(1), -1);
        Check.due("meaning(1)", x.meaning(1), -1);
        x.cut(10);
        Check.append(x, "b=a;");
        Check.due("read() of the mended text", x.read(), 8);
        Check.due("at()", x.at(), -1);
        Check.due("form", Check.form(x), "a:i;b:ia =;");
        Check.due("read() again", x.read(), 8);
        Check.due("form again", Check.form(x), "a:i;b:ia =;");
        x.cut(9);
        Check.throwsDue("read() of the cut text", IllegalArgumentException.class, x::read);
        Check.due("at()", x.at(), 4);
        Check.outOfBounds("form(0)", () -> x.form(0));
        Check.outOfBounds("about(0, 0)", () -> x.about(0, 0));
        Check.due("role(1) behind a text that is none", x.role(1), -1);
        Check.due("meaning(1) behind a text that is none", x.meaning(1), -1);
        x.cut(0);
        Check.due("read() of nothing", x.read(), 0);
        TextTest.nothingIsTold(x, "an empty program behind others");
    }

    /** Nothing of what was read before, a program or not, is left in the next one. */
    private static void readsMany() {
        TypeOrThing x = Check.typed("typedef int t;t f(t a){a;}");
        Check.due("read()", x.read(), 14);
        x.cut(0);
        Check.append(x, "int;int;int;int;int;int;int;int;");
        Check.due("read() of no names", x.read(), 16);
        Check.due("its roles", Check.roles(x, 16), "0".repeat(16));
        Check.due("its meanings", Check.meanings(x, 16), "-".repeat(16));
        for (int i = 0; i < 3; i++) {
            x.cut(0);
            Check.append(x, "int f(int a){((((((" + "!".repeat(140));
            Check.due("AT of many signs", Check.readAt(x), 153);
        }
        x.cut(0);
        Check.append(x, "int f(){((((((-1))))));}int a=(int)!f;");
        Check.due("AT of the next", Check.readAt(x), -1);
        Check.due("its form", Check.form(x), "f:()i{1 ~;}a:if ![i]=;");
    }
}
