/** What the document's Terms say of the text and its tokens, at each boundary and just beyond it. */
public final class TokensEdgeTest {
    private static final String SIGNS = "()[]{};,*=+-/<&!";
    private static final String[] KEYWORDS =
        {"typedef", "int", "char", "void", "if", "else", "while", "return", "sizeof"};

    public static void main(String[] args) {
        textHasAtMost160Characters();
        textIsReadUpToItsLastCharacter();
        textHasTheseCharacters();
        wordsBeginWithASmallLetter();
        wordsGoOnWithSmallLettersAndDigits();
        wordsHaveAtMostEightCharacters();
        numbersAreDigits();
        numbersHaveAtMostFourDigits();
        tokensAreAsLongAsTheyCanBe();
        signsAreOneCharacterEach();
        blanksStandAnywhereBetween();
        blanksEndTokens();
        keywordsAreNoNames();
        allOthersAreNames();
        charactersThatBeginNoToken();
        behindTheLastTokenIsTheEnd();
        Check.end();
    }

    /** "THE TEXT has at most 160 characters" */
    private static void textHasAtMost160Characters() {
        TypeOrThing x = new TypeOrThing();
        for (int i = 0; i < 160; i++) {
            Check.due("type of character " + i, x.type(' ', 1), true);
        }
        Check.due("type of character 160", x.type(' ', 1), false);
        Check.due("cut(161)", x.cut(161), false);
        Check.due("cut(160)", x.cut(160), true);
        for (int n = 1; n <= 8; n++) {
            Check.due("cut", x.cut(160 - n), true);
            Check.due("one more than there is room for", x.type(0x2020202020202020L, n + 1), false);
            Check.due(n + " characters up to 160", x.type(0x2020202020202020L, n), true);
            Check.due("no room any more", x.type(' ', 1), false);
        }
    }

    private static void textIsReadUpToItsLastCharacter() {
        String begun = "int f(){" + ";".repeat(151);
        Check.program(begun + "}");
        Check.refused(begun + "@");
        Check.refused(begun + ";@");
        Check.due("tokens of a full text", readCount(begun + "}"), 157);
        Check.program("int" + " ".repeat(155) + "a;");
        Check.refused("int" + " ".repeat(156) + "a@");
        Check.formDue(" ".repeat(147) + "int abcdefgh;", "abcdefgh:i;");
        Check.refused(" ".repeat(148) + "int abcdefgh@");
    }

    private static int readCount(String program) {
        return Check.read(program).read();
    }

    /** "characters 10 or 32 .. 126" */
    private static void textHasTheseCharacters() {
        for (int c : new int[] {0, 1, 9, 11, 13, 31, 127, 128, 138, 160, 255}) {
            anywhereInACall(c, false);
        }
        for (int c : new int[] {10, 32, 33, 'a', 125, 126}) {
            anywhereInACall(c, true);
        }
    }

    private static void anywhereInACall(int c, boolean want) {
        for (int place = 0; place < 8; place++) {
            long w = 0x2020202020202020L & ~(0xFFL << 8 * place) | (long) c << 8 * place;
            TypeOrThing x = new TypeOrThing();
            Check.due("character " + c + " at " + place, x.type(w, 8), want);
            Check.due("its text has eight", x.cut(8), want);
            Check.due("character " + c + " at " + place + ", the last", new TypeOrThing().type(w, place + 1), want);
            if (place > 0) {
                Check.due("character " + c + " behind the last", new TypeOrThing().type(w, place), true);
            }
        }
    }

    /** "WORDS: a small letter, and .." */
    private static void wordsBeginWithASmallLetter() {
        for (char c = 33; c <= 126; c++) {
            boolean letter = c >= 'a' && c <= 'z';
            // These fit there as well, but not with ';' behind them.
            int at = "(*;".indexOf(c) >= 0 ? 2 : 1;
            Check.atDue("int " + c + ";", letter ? TypeOrThing.NONE : at);
        }
    }

    /** "WORDS: a small letter, and small letters and digits" */
    private static void wordsGoOnWithSmallLettersAndDigits() {
        for (char c = 33; c <= 126; c++) {
            boolean goesOn = c >= 'a' && c <= 'z' || c >= '0' && c <= '9';
            TypeOrThing x = Check.typed("int a" + c + "=1;");
            boolean one = Check.readAt(x) == TypeOrThing.NONE && Check.form(x).equals("a" + c + ":i1 =;");
            Check.due("whether a" + c + " is one word", one, goesOn);
        }
    }

    /** "eight at most", "a ninth character of a word .. is a token, too, that fits nowhere" */
    private static void wordsHaveAtMostEightCharacters() {
        Check.formDue("int abcdefgh=abcdefgh;", "abcdefgh:iabcdefgh =;");
        Check.formDue("int z2345678;", "z2345678:i;");
        Check.refused("int abcdefgh@i;");
        Check.refused("int abcdefgh@9;");
        Check.refused("int abcdefgh@ijklmnopq;");
        Check.refused("int a;int b=1+a;int abcdefgh@a;");
        // The ninth would fit if it were a token like others.
        Check.refused("typedef int abcdefgh;abcdefgh@i;");
        Check.program("typedef int abcdefgh;abcdefgh i;");
        Check.refused("typedef int abcdefgh;int i=(abcdefgh@i);");
        // All eight count, and so does how many there are.
        Check.program("int a,ab,abc,abcd,abcde,abcdef,abcdefg,abcdefgh,abcdefgi,bbcdefgh;");
        Check.refused("int abcdefgh,abcdefgi,@abcdefgh;");
        Check.refused("int abcdefgh=@abcdefgi;");
        Check.refused("int abcdefgh=@abcdefg;");
    }

    /** "NUMBERS: digits" */
    private static void numbersAreDigits() {
        Check.formDue("int a=0+9;", "a:i0 9 +=;");
        for (char c = '0'; c <= '9'; c++) {
            Check.formDue("int a[" + c + "]=" + c + ";", "a:[" + c + "]i" + c + " =;");
        }
        Check.formDue("int a=1/2;", "a:i1 2 /=;");
        Check.refused("int a=1@:2;");
        Check.refused("int a=@.5;");
    }

    /** "four at most", "a fifth one of a number, is a token, too, that fits nowhere" */
    private static void numbersHaveAtMostFourDigits() {
        Check.formDue("int a[9999]=1234+0000;", "a:[9999]i1234 0000 +=;");
        Check.refused("int a=1234@5;");
        Check.refused("int a=0000@0;");
        Check.refused("int a[1234@5];");
        Check.refused("int a=1234@56789;");
        Check.refused("int a=1234@567890123;");
    }

    /** "from the left, each as long as it can be" */
    private static void tokensAreAsLongAsTheyCanBe() {
        Check.refused("@inta;");
        Check.refused("@int1;");
        Check.refused("int a=12@ab;");
        Check.refused("int a=1234@a;");
        Check.refused("int @1a;");
        Check.program("int a1b=1;");
        Check.program("int iff,elsee,ifelse;");
        Check.formDue("int f(){return 1;}", "f:()i{1 ^}");
        Check.refused("int f(){@return1;}");
        Check.refused("int a=@sizeofa;");
        Check.program("int a=sizeof a;");
    }

    /** "the SIGNS ( ) [ ] { } ; , * = + - / < & !" */
    private static void signsAreOneCharacterEach() {
        String all = "int*f(int a[]){if(!a<1){a(&a,1)=a+1-1/2;}}";
        Check.program(all);
        for (int i = 0; i < SIGNS.length(); i++) {
            Check.due("whether the program has " + SIGNS.charAt(i), all.indexOf(SIGNS.charAt(i)) >= 0, true);
        }
        Check.due("tokens of signs side by side", readCount("int**a=&a,*(*b)[]=!!-(--a);"), 25);
        // Two signs never make one token.
        Check.refused("int a=a=@=a;");
        Check.refused("int a=a<@<a;");
        Check.refused("int a=a<@=a;");
        Check.refused("int a=a+@+;");
        Check.refused("int a=a/@/a;");
        Check.program("int a=a--a;");
        Check.program("int a=a**a;");
        Check.program("int a=!!a;");
        Check.program("int a=&&a;");
    }

    /** "Characters 10 and 32 stand anywhere between them." */
    private static void blanksStandAnywhereBetween() {
        String[] tokens = "int f ( int a ) { a = 1 ; }".split(" ");
        for (String blank : new String[] {" ", "\n", "  ", "\n\n", " \n ", "\n \n"}) {
            String text = blank + String.join(blank, tokens) + blank;
            Check.due("tokens of " + text, readCount(text), tokens.length);
            Check.formDue(text, "f:(i)i{a 1 =;}");
        }
        Check.formDue("int f(int a){a=1;}", "f:(i)i{a 1 =;}");
        Check.due("tokens of blanks alone", readCount(" \n \n"), 0);
        Check.due("tokens of 160 blanks", readCount("\n".repeat(160)), 0);
    }

    private static void blanksEndTokens() {
        Check.refused("@in t;");
        Check.refused("@in\nt;");
        Check.refused("int a @b;");
        Check.refused("int a=1@ 2;");
        Check.refused("int a=1@\n2;");
        Check.refused("int abcdefgh@ i;");
        Check.refused("int a=1234@ 5;");
    }

    /** "The words typedef int char void if else while return sizeof are KEYWORDS" */
    private static void keywordsAreNoNames() {
        for (String keyword : KEYWORDS) {
            Check.refused(keyword.equals("typedef") ? "int typedef@=1;" : "int @" + keyword + "=1;");
            Check.refused("int f(int @" + keyword + ");");
            Check.refused("int a,@" + keyword + ";");
        }
    }

    /** "all others NAMES" */
    private static void allOthersAreNames() {
        for (String keyword : KEYWORDS) {
            String shorter = keyword.substring(0, keyword.length() - 1);
            for (String name : new String[] {keyword + "x", keyword + "0", shorter, "x" + keyword}) {
                Check.formDue("int " + name + "=" + name + ";", name + ":i" + name + " =;");
                Check.due("role of " + name, Check.read("int " + name + ";").role(1), 4);
            }
        }
        for (String name : new String[] {"short", "for", "do", "struct", "double", "a", "z", "a0"}) {
            Check.program("typedef int " + name + ";" + name + " x1;");
        }
    }

    /** "A character that begins no token .. is a token, too, that fits nowhere" */
    private static void charactersThatBeginNoToken() {
        for (char c = 33; c <= 126; c++) {
            boolean begins = SIGNS.indexOf(c) >= 0 || c >= 'a' && c <= 'z' || c >= '0' && c <= '9';
            if (!begins) {
                Check.atDue("" + c, 0);
                Check.atDue("int" + c + "a;", 1);
                Check.atDue("int a" + c + ";", 2);
                Check.atDue("int a;" + c, 3);
                Check.atDue("int a;" + c + c, 3);
                Check.atDue("int a=" + c + "1;", 3);
                Check.atDue("int a=1" + c + ";", 4);
                Check.atDue("int f(" + c + ");", 3);
                Check.atDue("int f(int(" + c + "));", 5);
                Check.atDue("int f(void" + c + ");", 4);
                Check.atDue("int f(){" + c + "}", 5);
                Check.atDue("int f(){if(1);" + c + "else;}", 10);
            }
        }
    }

    /** "behind the last token is the END" */
    private static void behindTheLastTokenIsTheEnd() {
        Check.refused("int@");
        Check.refused("int@ \n");
        Check.refused("int a@");
        Check.refused("int a;int b@");
        Check.refused("int f(){@ ");
        Check.refused("typedef@");
        TypeOrThing x = Check.read("int a; ");
        Check.due("role of the last token", x.role(2), 0);
        Check.due("role of the END", x.role(3), TypeOrThing.NONE);
    }
}
