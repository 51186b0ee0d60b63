/** What the document's Terms say of scopes and the grammar, at each boundary and just beyond it. */
public final class GrammarEdgeTest {
    public static void main(String[] args) {
        oneScopeFromBeginningToEnd();
        scopesInOneAnother();
        notDeclaredTwiceInAScope();
        meansWhatTheInnermostScopeHas();
        meansNothingIfNoScopeHasIt();
        programsOfNothing();
        blocksOnlyBehindFunctions();
        specifiersHaveOneBase();
        basesAreTypes();
        declaratorsHaveOneName();
        suffixesHaveOneNumberOrNone();
        parametersOrNothing();
        voidAloneOrNot();
        groupsOrSuffixes();
        blocksOfNothing();
        declarationsBeginWithTypedefOrBase();
        elseIsOfTheNearestIf();
        returnsWithAndWithout();
        oneComparisonAtMost();
        placesAreMoreThanANumber();
        argumentsOrNone();
        typenamesInBrackets();
        declaredWhereTheDeclaratorEnds();
        declaredAsATypeWithTypedef();
        parametersAreAScope();
        parametersAreDeclaredWhereTheyEnd();
        blockOfAFunctionIsTheScopeOfItsParameters();
        functionsByWhatAppliesFirst();
        Check.end();
    }

    // SCOPES

    /** "one is there from the beginning to the end" */
    private static void oneScopeFromBeginningToEnd() {
        Check.program("int a;int f(int b){{{b;a;}}}int c=a;");
        Check.refused("int a;int f(int b){{{b;a;}}}int @a;");
        Check.partsDue("int a;int f(){{}}int c;", 1, "1 1 1");
    }

    /** "others open and close in it and in one another" */
    private static void scopesInOneAnother() {
        String deepest = "int f(int a){{int a;{int a;{int a;{int a;{int a;{int a;{int a;}}}}}}}}";
        TypeOrThing x = Check.read(deepest);
        Check.due("depths", Check.parts(x, 1), "2 1 3 4 5 6 7 8 9");
        Check.partsDue("int f(){{int a;}{int a;{int a;}int b;}int a;}int a;", 1, "1 3 3 4 3 2 1");
        Check.partsDue("int f(int(int(int(int(int(int(int(int a))))))));", 1, "9 1");
        Check.refused("int f(int(int(int(int(int(int(int(int@(int a)))))))));");
    }

    /** "it can't be if that scope has it" */
    private static void notDeclaredTwiceInAScope() {
        String[] seconds = {"typedef int @x;", "int @x;", "int*@x;", "int(@x)();", "int a,@x=1;"};
        for (String first : new String[] {"typedef int x;", "int x;", "int x();", "typedef int x[2];"}) {
            for (String second : seconds) {
                Check.refused(first + second);
                Check.refused("int f(){" + first + second + "}");
                Check.program(first + "int f(){" + second.replace("@", "") + "}");
                Check.program("int f(){" + first + "{" + second.replace("@", "") + "}}");
                Check.program("int f(){{" + first + "}{" + second.replace("@", "") + "}}");
            }
        }
        Check.refused("int f(int x,int @x);");
        Check.program("int f(int x),g(int x);");
        Check.refused("int f(int x){int @x;}");
        Check.refused("int f(int x){typedef int @x;}");
        Check.program("int f(int x){{typedef int x;}}");
        Check.refused("int f(){}char @f;");
        Check.refused("int f(){}int @f(){}");
        Check.program("int f(){char f;}");
        Check.program("int f(int f){}");
    }

    /** "A name MEANS what it was declared as in the innermost open scope that has it" */
    private static void meansWhatTheInnermostScopeHas() {
        String program = "int a;int f(){a;{a;typedef int a;{a b;int a;a;}a c;}a;}int d=a;";
        TypeOrThing x = Check.read(program);
        int tokens = Check.countTokens(program);
        Check.due("meanings of its names", Check.meanings(x, tokens).replace("-", ""), "01002234425060");
        Check.due("roles of its names", Check.roles(x, tokens).replace("0", ""), "44223144214242");
        // The innermost one, though an outer one has it since.
        TypeOrThing later = Check.read("int f(int f){f;}");
        Check.due("what f means in its block", later.meaning(7), 0);
        Check.due("what f makes", later.meaning(1), 1);
    }

    /** "nothing if there is none" */
    private static void meansNothingIfNoScopeHasIt() {
        Check.refused("int a=@b;");
        Check.refused("@b a;");
        Check.refused("int f(){{int b;}@b;}");
        Check.refused("int f(int b){}int a=@b;");
        Check.refused("int f(){typedef int b;}@b a;");
        Check.refused("int f(int b),a=@b;");
        Check.refused("int a=(int(*)(int b))1+@b;");
        Check.refused("int f(int g(int b),@b c);");
        Check.refused("int f(int g(int b)){@b;}");
    }

    // GRAMMAR

    /** "PROGRAM: {..} END", "[DECLARATOR [INIT] {',' DECLARATOR [INIT]}]" */
    private static void programsOfNothing() {
        Check.program("");
        Check.program("int;");
        Check.program("int a;");
        Check.program("int a=1;");
        Check.program("int a,b;");
        Check.program("int a=1,b,c=2,d=a;");
        Check.program("int;int;");
        Check.refused("@;");
        Check.refused("int;@;");
        Check.refused("int@,a;");
        Check.refused("int a,@;");
        Check.refused("int a,@,b;");
        Check.refused("int a@ b;");
        Check.refused("int a=@;");
        Check.refused("int a=@,b;");
        Check.refused("int@=1;");
        Check.refused("int a=1 @b;");
    }

    /** "SPECIFIERS DECLARATOR BLOCK .. only if the declarator is that of a FUNCTION" */
    private static void blocksOnlyBehindFunctions() {
        Check.program("int f(){}");
        Check.program("int f(){}int;int g(){}");
        Check.refused("int a@{}");
        Check.refused("int a[2]@{}");
        Check.refused("int@{}");
        Check.refused("int(*f)()@{}");
        Check.refused("typedef int f()@{}");
        Check.refused("typedef int t();t f@{}");
        Check.refused("int f()=1@{}");
        Check.refused("int a,f()@{}");
        Check.refused("int f(),a@{}");
        Check.refused("int f(){}@{}");
        Check.refused("int f(){}@;");
        Check.refused("int f(){}@,g;");
        Check.refused("int f(){int g()@{}}");
    }

    /** "SPECIFIERS: 'typedef' and one BASE, in any order, or one BASE." */
    private static void specifiersHaveOneBase() {
        for (String base : new String[] {"int", "char", "void", "t"}) {
            Check.program("typedef int t;" + base + " a;");
            Check.program("typedef int t;typedef " + base + " a;");
            Check.program("typedef int t;" + base + " typedef a;");
            Check.refused("typedef int t;typedef " + base + " @typedef a;");
            Check.refused("typedef int t;" + base + " typedef @typedef a;");
            Check.refused("typedef int t;" + base + " @int a;");
            Check.refused("typedef int t;typedef " + base + " @char a;");
            Check.refused("typedef int t;" + base + " typedef @void a;");
        }
        Check.refused("typedef@;");
        Check.refused("typedef @typedef int a;");
        Check.refused("typedef @a;");
        Check.refused("typedef int t;typedef t @t;");
    }

    /** "BASE: 'int', 'char', 'void', or a name that means a type." */
    private static void basesAreTypes() {
        Check.typesDue("int a;char b;void c;typedef int d;d e;", "i c v i 3.");
        Check.refused("@if a;");
        Check.refused("@sizeof a;");
        Check.refused("@1 a;");
        Check.refused("int a;@a b;");
        Check.refused("int f();@f b;");
        Check.refused("@a b;");
        Check.program("typedef int f();f b;");
    }

    /** "DECLARATOR: {'*'} DIRECT {SUFFIX}. DIRECT: a name, or a GROUP: '(' DECLARATOR ')'." */
    private static void declaratorsHaveOneName() {
        Check.program("int*a,**b,***c,(d),((e)),*(*(*(g)));");
        Check.program("int" + "*".repeat(155) + "a;");
        Check.program("int a" + "[]".repeat(77) + ";");
        Check.refused("int*@;");
        Check.refused("int(@);");
        Check.refused("int(*@)a;");
        Check.refused("int a@*;");
        Check.refused("int(a)(@b);");
        Check.refused("int(a@ b);");
        Check.refused("int(a@,b);");
        Check.refused("int(a@;");
        Check.refused("int a@);");
        Check.refused("int@[2]a;");
    }

    /** "SUFFIX: '[' [NUMBER] ']'" */
    private static void suffixesHaveOneNumberOrNone() {
        Check.program("int a[],b[1],c[][2],d[1][];");
        Check.refused("int a[1@ 2];");
        Check.refused("int a[@a];");
        Check.refused("int a[@-1];");
        Check.refused("int a[@(1)];");
        Check.refused("int a[1@+1];");
        Check.refused("int a[1@;");
        Check.refused("int a[@;");
        Check.refused("int a[1@)");
        Check.refused("int a@]");
    }

    /** "PARAMETERS: nothing; .. else PARAMETER {',' PARAMETER}. PARAMETER: BASE, and a declarator or an ABSTRACT." */
    private static void parametersOrNothing() {
        Check.program("int f(),g(int),h(int,char),i(int a,char,void*b);");
        Check.program("int f(int" + ",int".repeat(37) + ");");
        Check.refused("int f(@,);");
        Check.refused("int f(@,int);");
        Check.refused("int f(int,@);");
        Check.refused("int f(int,@,int);");
        Check.refused("int f(int @int);");
        Check.refused("int f(int a@ b);");
        Check.refused("int f(@a);");
        Check.refused("int f(@1);");
        Check.refused("int f(@*);");
        Check.refused("int f(@typedef int a);");
        Check.refused("int f(int @typedef a);");
        Check.refused("int f(int a@=1);");
        Check.refused("int f(int@;");
        Check.refused("int f(@;");
    }

    /** "'void' if ')' is behind it; else PARAMETER" */
    private static void voidAloneOrNot() {
        Check.typesDue("int f(void),g(void,void),h(void*),i(void()),j(void a);", "()i (v,v)i (*v)i (()v)i v (v)i");
        Check.typesDue("typedef void t;int f(t),g(t,t);", "v (0.)i (0.,0.)i");
        Check.refused("int f(void@;");
        Check.refused("int f(void@");
        Check.refused("int f(void @void);");
        Check.refused("int f(void)@)");
    }

    /** "'(' is that of a group if behind it comes '*', '(' or '[', or, in a parameter, a name that .." */
    private static void groupsOrSuffixes() {
        String t = "typedef char t;int x;";
        Check.typesDue(t + "int f(int(*),int(()),int([2]),int(x),int(y));", "c i i i (*i,()i,[2]i,i,i)i");
        Check.typesDue(t + "int f(int(t),int(int),int(),int(void));", "c i ((0.)i,(i)i,()i,()i)i");
        Check.typesDue(t + "int f(int((t)),int((x)),int(*(t)),int(*t));", "c i i *i ((0.)i,i,(0.)*i,*i)i");
        Check.formDue(t + "int f=(int(*))1+(int(()))1+(int([2]))1+(int(t))1+(int())1;",
            "#t:c;x:i;f:i1 [*i]1 [()i]+1 [[2]i]+1 [(0.)i]+1 [()i]+=;");
        Check.refused(t + "int f=(int(@x))1;");
        Check.refused(t + "int f=(int(@y))1;");
        Check.refused(t + "int f=(int((@y)))1;");
        Check.refused(t + "int f=(int(*@y))1;");
        Check.refused(t + "int f(int(@1));");
        Check.refused(t + "int f(int(@;");
        // Behind a name or a group only a suffix may stand, before them in a declarator only a group.
        Check.refused(t + "int f(int y(@*));");
        Check.refused(t + "int f(int(*)(@*));");
        Check.refused(t + "int f(int[2](@*));");
        Check.refused(t + "int f(int()(@x));");
        Check.refused(t + "int(@t);");
        Check.program(t + "int f(){int(t);}");
    }

    /** "BLOCK: '{' {..} '}'" */
    private static void blocksOfNothing() {
        Check.program("int f(){}");
        Check.program("int f(){;}");
        Check.program("int f(){int a;a;int b;{}}");
        Check.refused("int f(){@");
        Check.refused("int f(){}@}");
        Check.refused("int f(){{}@");
        Check.refused("int f(){@)");
        Check.refused("int f(){int a@}");
        Check.refused("int f(){1@}");
    }

    /** "the former when it begins with 'typedef' or a BASE", "STATEMENT: BLOCK; ';'; EXPRESSION ';'; .." */
    private static void declarationsBeginWithTypedefOrBase() {
        Check.due("roles of t*a twice", Check.roles(Check.read("typedef int t;int f(){t*a;int t;t*a;}"), 21),
            "0030" + "04000" + "1040" + "040" + "2020" + "0");
        Check.program("typedef int t;int f(){t;t a;typedef t b;b;{t a;}}");
        Check.refused("typedef int t;int f(){t@=1;}");
        Check.refused("typedef int t;int f(){t a;a@ t;}");
        Check.refused("int f(){@n a;}");
        for (String before : new String[] {"if(1)", "while(1)", "if(1);else "}) {
            Check.program("typedef int t;int f(){" + before + ";}");
            Check.program("typedef int t;int f(){" + before + "{t a;}}");
            Check.refused("typedef int t;int f(){" + before + "@t a;}");
            Check.refused("typedef int t;int f(){" + before + "@int a;}");
            Check.refused("typedef int t;int f(){" + before + "@typedef int a;}");
            Check.refused("typedef int t;int f(){" + before + "@}");
        }
    }

    /** "['else' STATEMENT], an 'else' with the nearest 'if'" */
    private static void elseIsOfTheNearestIf() {
        Check.formDue("int f(){if(1)if(2);else;}", "f:()i{1 ?2 ?;:;}");
        Check.formDue("int f(){if(1)if(2)3;else 4;else 5;}", "f:()i{1 ?2 ?3 ;:4 ;:5 ;}");
        Check.formDue("int f(){if(1){if(2);}else;}", "f:()i{1 ?{2 ?;}:;}");
        Check.refused("int f(){@else;}");
        Check.refused("int f(){if(1);else;@else;}");
        Check.refused("int f(){if(1)if(2);else;else;@else;}");
        Check.refused("int f(){while(1);@else;}");
        Check.refused("int f(){if(1);;@else;}");
        Check.refused("int f(){if(1)@else;}");
        Check.refused("int f(){if(1){@else;}}");
    }

    /** "'return' [EXPRESSION] ';'", "'if' '(' EXPRESSION ')'", "'while' '(' EXPRESSION ')'" */
    private static void returnsWithAndWithout() {
        Check.formDue("int f(){return;return 1;return f=f;}", "f:()i{^1 ^f f =^}");
        Check.refused("int f(){return@}");
        Check.refused("int f(){return 1@ 2;}");
        Check.refused("int f(){return 1@,2;}");
        Check.refused("int f(){if(@);}");
        Check.refused("int f(){while(@);}");
        Check.refused("int f(){if(1@,2);}");
        Check.refused("int f(){if @1;}");
        Check.refused("int f(){while @{}}");
        Check.refused("int f(){if(@int a);}");
        Check.refused("int f(){;@,}");
    }

    /** "EXPRESSION: SUM ['<' SUM], or PLACE '=' EXPRESSION." */
    private static void oneComparisonAtMost() {
        Check.formDue("int a=a<a;", "a:ia a <=;");
        Check.refused("int a=a<a@<a;");
        Check.refused("int a=a=a<a@<a;");
        Check.program("int a=a<(a<a);");
        Check.program("int a=(a<a)<a;");
        Check.program("int a=a[a<a]<a(a<a,a<a);");
        Check.refused("int a=a<a@=a;");
        Check.program("int a=a=a=a<a;");
        Check.refused("int a=a<@;");
        Check.refused("int a=@<a;");
    }

    /** "PLACE: '*' and CAST, or a POSTFIX that is more than a NUMBER or '(' EXPRESSION ')' alone." */
    private static void placesAreMoreThanANumber() {
        for (String place : new String[] {"a", "a[1]", "a()", "1[2]", "1()", "(a)[1]", "(a)()", "*a", "*1", "*(1)",
                "*-a", "*(int)a", "*&a", "*sizeof(int)"}) {
            Check.program("int a=" + place + "=1;");
            Check.program("int a=a=" + place + "=1;");
            Check.refused("int a=(" + place + ")@=1;");
            Check.refused("int a=-" + place + "@=1;");
            Check.refused("int a=(int)" + place + "@=1;");
            Check.refused("int a=sizeof " + place + "@=1;");
            Check.refused("int a=1+" + place + "@=1;");
            Check.refused("int a=" + place + "/1@=1;");
            Check.refused("int a=1<" + place + "@=1;");
        }
        for (String other : new String[] {"1", "9999", "(1)", "(a=1)", "&a", "!a", "sizeof(int)", "sizeof a"}) {
            Check.program("int a=" + other + ";");
            Check.refused("int a=" + other + "@=1;");
        }
    }

    /** "POSTFIX: PRIMARY {'[' EXPRESSION ']', or '(' [EXPRESSION {',' EXPRESSION}] ')'}." */
    private static void argumentsOrNone() {
        Check.program("int a=a()+a(1)+a(1,2)+a[1]+a[1][2]()(3);");
        Check.program("int a=a" + "()".repeat(76) + ";");
        Check.refused("int a=a[@];");
        Check.refused("int a=a[1@,2];");
        Check.refused("int a=a(@,);");
        Check.refused("int a=a(1,@);");
        Check.refused("int a=a(1@ 2);");
        Check.refused("int a=a(@int);");
        Check.refused("int a=(@);");
        Check.refused("int a=(1@,2);");
        Check.refused("int a=a[1@)");
        Check.refused("int a=a(1@]");
    }

    /** "TYPENAME: BASE ABSTRACT; '(' is before one when a BASE comes behind it." */
    private static void typenamesInBrackets() {
        String t = "typedef int t;int a;";
        Check.formDue(t + "int b=(t)-a;", "#t:i;a:i;b:ia ~[0.]=;");
        Check.formDue(t + "int b=(a)-a;", "#t:i;a:i;b:ia a -=;");
        Check.formDue(t + "int b=sizeof(t)-a;", "#t:i;a:i;b:i[0.]$a -=;");
        Check.formDue(t + "int b=sizeof(a)-a;", "#t:i;a:i;b:ia $a -=;");
        Check.formDue(t + "int b=sizeof-(t)a;", "#t:i;a:i;b:ia [0.]~$=;");
        Check.refused(t + "int b=(t)@;");
        Check.refused(t + "int b=(a)@a;");
        Check.refused(t + "int b=sizeof(t)@a;");
        Check.refused(t + "int b=sizeof(t)@[1];");
        Check.refused(t + "int b=sizeof(t)@(1);");
        Check.program(t + "int b=sizeof(a)[1]+sizeof(a)(1);");
        Check.refused(t + "int b=sizeof @t;");
        Check.refused(t + "int b=(t @a)1;");
        Check.refused(t + "int b=(@n)1;");
        Check.refused(t + "int b=(@typedef t)1;");
        Check.refused(t + "int b=(t @int)1;");
        Check.refused(t + "int b=a+@t;");
    }

    /** "A declarator's name is declared where the declarator ends (before INIT or BLOCK)" */
    private static void declaredWhereTheDeclaratorEnds() {
        Check.program("int a=a;");
        Check.program("int f(){f();}");
        Check.refused("int a=@b,b;");
        Check.program("int b,a=b;");
        // Until then the name means what it did.
        Check.typesDue("typedef int t;int f(){t t(t,int(t));}", "i ()i (0.,(0.)i)0.");
        Check.due("roles of a name in its own declarator",
            Check.roles(Check.read("typedef int t;int f(){t t(t),*a=t;}"), 21), "0030" + "04000" + "140100040200");
        Check.refused("typedef int t;int f(){t t,b=(t)@1;}");
        Check.refused("typedef int t;int f(){t t;t @a;}");
    }

    /** "as a type with 'typedef', else as a thing" */
    private static void declaredAsATypeWithTypedef() {
        Check.program("typedef int t=(t)1;");
        Check.refused("typedef int t=@t;");
        Check.program("int t=t;");
        Check.refused("int t=(t)@1;");
        Check.due("roles", Check.roles(Check.read("typedef int a,b();int c,d();"), 15), "00303000" + "0404000");
    }

    /** "The parameters of a suffix are a scope" */
    private static void parametersAreAScope() {
        Check.program("int a;int f(int a);");
        Check.program("int f(int a)(int a);");
        Check.program("int(*f(int a))(int a);");
        Check.program("int f(int a,int b(int a));");
        Check.refused("int f(int a,int @a);");
        Check.refused("int f(int a,int(*@a)(int));");
        Check.program("int a=(int(int a,int(int a)))1;");
        Check.refused("int a=(int(int a,int @a))1;");
    }

    /** "in which a parameter's name is declared where the parameter ends" */
    private static void parametersAreDeclaredWhereTheyEnd() {
        Check.typesDue("typedef int t;int f(t t(t,t a));", "i 0. (0.,0.)0. ((0.,0.)0.)i");
        Check.refused("typedef int t;int f(t t,@t a);");
        Check.refused("typedef int t;int f(t t,int(@t));");
        Check.program("typedef int t;int f(t(t),t a);");
        Check.refused("int f(int a,@a b);");
        Check.partsDue("int f(int a(int b,int c),int d);", 0, "7 10 4 14 1");
    }

    /** "one behind the declarator of a function is the scope, opened again, of the parameters that make it one" */
    private static void blockOfAFunctionIsTheScopeOfItsParameters() {
        Check.program("int f(int a){a;{int a;a;}}");
        Check.refused("int f(int a){int @a;}");
        Check.program("int(*f(int a))(int b){a;int b;}");
        Check.refused("int(*f(int a))(int b){@b;}");
        Check.refused("int(*f(int a))(int b){int @a;}");
        Check.refused("int f(int a)(int b){@b;}");
        Check.refused("int f(int g(int a)){@a;}");
        Check.program("int f(int g(int a)){int a;g;}");
        Check.program("int f(int a){}int g(int a){int b;}");
        Check.partsDue("int f(int a){int b;{int c;}}", 1, "2 1 2 3");
    }

    /** "A FUNCTION is what a declarator without 'typedef' declares when what applies first .." */
    private static void functionsByWhatAppliesFirst() {
        Check.partsDue("int a,b(),*c(),(*d)(),e[2](),(g)(),(*h())[2],*i;", 3, "0 2 2 0 0 2 2 0");
        Check.partsDue("typedef int a,b(),(*c)();b d;", 3, "1 1 1 0");
        Check.partsDue("int f(int a(),int(*b)(),int c);", 3, "2 0 0 2");
    }
}
