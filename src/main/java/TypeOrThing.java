/**
 * Reads programs of a small language in which a name means a type or a thing by what was declared
 * last; tells what every name was taken for, which types were declared, and the program in a plain
 * form; or at which token it is none.
 */
public final class TypeOrThing {
    public static final int NONE = -1;

    private static final int MOST_CHARACTERS = 160;
    private static final int MOST_OPEN = 8;
    // Between two names stands at least one other character.
    private static final int MOST_NAMES = MOST_CHARACTERS / 2;
    // Nothing writes more than declarators behind "typedef t" do: "a," becomes "#a:10.;".
    private static final int MOST_WRITTEN = 4 * MOST_CHARACTERS;
    private static final int BYTES_OF_LONG = 8;
    private static final int LONGEST_WORD = 8;
    private static final int LONGEST_NUMBER = 4;
    private static final int BITS_A_CHARACTER = 8;

    // The kinds of tokens; that of a sign is its own character, which is above all of these.
    private static final int END = 0;
    private static final int UNFIT = 1;
    private static final int NAME = 2;
    private static final int NUMBER = 3;
    private static final int TYPEDEF = 4;
    private static final int INT = 5;
    private static final int CHAR = 6;
    private static final int VOID = 7;
    private static final int IF = 8;
    private static final int ELSE = 9;
    private static final int WHILE = 10;
    private static final int RETURN = 11;
    private static final int SIZEOF = 12;
    private static final String SIGNS = "()[]{};,*=+-/<&!";

    private static final int ROLE_OTHER = 0;
    private static final int ROLE_TYPE = 1;
    private static final int ROLE_THING = 2;
    private static final int ROLE_NEW_TYPE = 3;
    private static final int ROLE_NEW_THING = 4;

    private static final int SORT_THING = 0;
    private static final int SORT_TYPE = 1;
    private static final int SORT_FUNCTION = 2;

    private final char[] text;
    private int size;
    private int tokensRead;
    private int refusedAt;
    private final Tokens tokens;
    private final Names names;
    private final Tape plainForm;
    private final Programs programs;

    public TypeOrThing() {
        text = new char[MOST_CHARACTERS];
        size = 0;
        tokensRead = 0;
        refusedAt = NONE;
        tokens = new Tokens();
        names = new Names(tokens);
        plainForm = new Tape();
        programs = new Programs(tokens, names, plainForm);
    }

    public boolean type(long w, int n) {
        if (n < 1 || n > BYTES_OF_LONG || size + n > MOST_CHARACTERS) {
            return false;
        }
        for (int i = 0; i < n; i++) {
            if (!isTypable(characterOf(w, i))) {
                return false;
            }
        }
        for (int i = 0; i < n; i++) {
            text[size] = characterOf(w, i);
            size++;
        }
        return true;
    }

    public boolean cut(int n) {
        if (n < 0 || n > size) {
            return false;
        }
        size = n;
        return true;
    }

    public int read() throws IllegalArgumentException {
        tokens.scan(text, size);
        refusedAt = programs.firstUnfit();
        if (refusedAt != NONE) {
            tokensRead = 0;
            throw new IllegalArgumentException();
        }
        tokensRead = tokens.count;
        return tokensRead;
    }

    public int at() {
        return refusedAt;
    }

    public int role(int i) {
        return wasRead(i) ? names.roles[i] : NONE;
    }

    public int meaning(int i) {
        return wasRead(i) ? names.meanings[i] : NONE;
    }

    public int declared() {
        return names.count;
    }

    public int about(int k, int part) throws IndexOutOfBoundsException {
        requireIndex(k, names.count);
        switch (part) {
            case 0:
                return names.nameTokens[k];
            case 1:
                return names.depths[k];
            case 2:
                return names.typeEnds[k] - names.typeStarts[k];
            case 3:
                return names.sorts[k];
            default:
                throw new IndexOutOfBoundsException();
        }
    }

    public int typeAt(int k, int i) throws IndexOutOfBoundsException {
        requireIndex(k, names.count);
        requireIndex(i, names.typeEnds[k] - names.typeStarts[k]);
        return names.types.cell(names.typeStarts[k] + i);
    }

    public int length() {
        return plainForm.size;
    }

    public int form(int i) throws IndexOutOfBoundsException {
        requireIndex(i, plainForm.size);
        return plainForm.cell(i);
    }

    private boolean wasRead(int token) {
        return token >= 0 && token < tokensRead;
    }

    private static char characterOf(long w, int i) {
        return (char) (w >>> (BITS_A_CHARACTER * i) & 0xFF);
    }

    private static boolean isTypable(char c) {
        return c == '\n' || c >= ' ' && c <= '~';
    }

    private static void requireIndex(int i, int bound) {
        if (i < 0 || i >= bound) {
            throw new IndexOutOfBoundsException();
        }
    }

    /** A row of characters that grows at its end. */
    private static final class Tape {
        private final char[] cells = new char[MOST_WRITTEN];
        int size = 0;

        void clear() {
            size = 0;
        }

        char cell(int i) {
            return i >= 0 && i < size ? cells[i] : 0;
        }

        void put(char c) {
            if (size < MOST_WRITTEN) {
                cells[size] = c;
                size++;
            }
        }

        void putTimes(char c, int times) {
            for (int i = 0; i < times; i++) {
                put(c);
            }
        }

        void putPart(Tape other, int start, int end) {
            for (int i = start; i < end; i++) {
                put(other.cell(i));
            }
        }

        /** Puts a packed word or number. */
        void putWord(long word) {
            for (int i = 0; i < LONGEST_WORD; i++) {
                char c = characterOf(word, i);
                if (c != 0) {
                    put(c);
                }
            }
        }

        /** Puts a count of names or arguments; 160 characters hold fewer than 100 of them. */
        void putCount(int count) {
            if (count >= 10) {
                put((char) ('0' + count / 10 % 10));
            }
            put((char) ('0' + count % 10));
        }
    }

    /** The tokens of a text; words and numbers are packed into longs, so that == compares them. */
    private static final class Tokens {
        final int[] kinds = new int[MOST_CHARACTERS];
        final long[] words = new long[MOST_CHARACTERS];
        int count = 0;
        private int lastLength = 0;

        int kindAt(int token) {
            return token >= 0 && token < count ? kinds[token] : END;
        }

        long wordAt(int token) {
            return token >= 0 && token < count ? words[token] : 0;
        }

        void scan(char[] text, int size) {
            count = 0;
            boolean touching = false;
            for (int i = 0; i < size; i++) {
                char c = text[i];
                boolean blank = c == ' ' || c == '\n';
                if (touching && continuesLast(c)) {
                    lengthenLast(c);
                } else if (!blank) {
                    begin(kindOf(c), c);
                }
                touching = !blank;
            }
            for (int i = 0; i < count; i++) {
                if (kinds[i] == NAME) {
                    kinds[i] = kindOfWord(words[i]);
                }
            }
        }

        private boolean continuesLast(char c) {
            int last = kindAt(count - 1);
            return isDigit(c) ? last == NAME || last == NUMBER : isLetter(c) && last == NAME;
        }

        private void lengthenLast(char c) {
            int last = count - 1;
            if (lastLength < (kindAt(last) == NAME ? LONGEST_WORD : LONGEST_NUMBER)) {
                words[last] |= (long) c << (BITS_A_CHARACTER * lastLength);
                lastLength++;
            } else {
                begin(UNFIT, c);
            }
        }

        private void begin(int kind, char c) {
            if (count < MOST_CHARACTERS) {
                kinds[count] = kind;
                words[count] = c;
                lastLength = 1;
                count++;
            }
        }

        private static int kindOf(char c) {
            if (isLetter(c)) {
                return NAME;
            }
            if (isDigit(c)) {
                return NUMBER;
            }
            return SIGNS.indexOf(c) >= 0 ? c : UNFIT;
        }

        private static boolean isLetter(char c) {
            return c >= 'a' && c <= 'z';
        }

        private static boolean isDigit(char c) {
            return c >= '0' && c <= '9';
        }

        private static int kindOfWord(long word) {
            if (word == packed("typedef")) {
                return TYPEDEF;
            }
            if (word == packed("int")) {
                return INT;
            }
            if (word == packed("char")) {
                return CHAR;
            }
            if (word == packed("void")) {
                return VOID;
            }
            if (word == packed("if")) {
                return IF;
            }
            if (word == packed("else")) {
                return ELSE;
            }
            if (word == packed("while")) {
                return WHILE;
            }
            if (word == packed("return")) {
                return RETURN;
            }
            return word == packed("sizeof") ? SIZEOF : NAME;
        }

        private static long packed(String keyword) {
            long word = 0;
            for (int i = 0; i < keyword.length(); i++) {
                word |= (long) keyword.charAt(i) << (BITS_A_CHARACTER * i);
            }
            return word;
        }
    }

    /** Goes over the tokens from the left, stays at the first that is refused, counts what is open. */
    private static final class Cursor {
        private final Tokens tokens;
        int position = 0;
        private int kind = END;
        private int open = 0;

        Cursor(Tokens tokens) {
            this.tokens = tokens;
        }

        void restart() {
            position = 0;
            open = 0;
            kind = tokens.kindAt(position);
        }

        int kindHere() {
            return kind;
        }

        int kindBehind() {
            return tokens.kindAt(position + 1);
        }

        boolean sees(int wanted) {
            return kind == wanted;
        }

        /** Refuses the token here if it does not fit. */
        void require(boolean fits) {
            if (!fits) {
                throw new IllegalArgumentException();
            }
        }

        /**
         * Goes behind the token here and answers its number. Refusing what would be open beyond
         * the limit also keeps all recursion low: no call comes back to a method that still
         * stands open without having taken one of these tokens.
         */
        int take() {
            switch (kind) {
                case '(', '[', '{', IF, WHILE, ELSE:
                    open++;
                    break;
                case ')', ']', '}':
                    open--;
                    break;
                default:
                    break;
            }
            if (open > MOST_OPEN) {
                throw new IllegalArgumentException();
            }
            position++;
            kind = position < tokens.count ? tokens.kinds[position] : END;
            return position - 1;
        }

        int expect(int wanted) {
            require(kind == wanted);
            return take();
        }

        /** Closes an 'if', 'while' or 'else', which no token of its own closes. */
        void endStatement() {
            open--;
        }
    }

    /** The declarations, the scopes they stand in, and what each token was taken for. */
    private static final class Names {
        private final Tokens tokens;
        final Tape types = new Tape();
        final int[] roles = new int[MOST_CHARACTERS];
        final int[] meanings = new int[MOST_CHARACTERS];
        int count = 0;
        final int[] nameTokens = new int[MOST_NAMES];
        final int[] depths = new int[MOST_NAMES];
        final int[] typeStarts = new int[MOST_NAMES];
        final int[] typeEnds = new int[MOST_NAMES];
        final int[] sorts = new int[MOST_NAMES];
        private final int[] scopes = new int[MOST_NAMES];
        // Every scope but the outermost stands in a bracket of its own; place 0 stays unused, so
        // that the scope at depth d stands at d.
        private final int[] openScopes = new int[2 + MOST_OPEN];
        private int depth = 0;
        private int scopesMade = 0;

        Names(Tokens tokens) {
            this.tokens = tokens;
        }

        void clear() {
            types.clear();
            count = 0;
            depth = 0;
            scopesMade = 0;
            for (int i = 0; i < MOST_CHARACTERS; i++) {
                roles[i] = ROLE_OTHER;
                meanings[i] = NONE;
            }
        }

        /** The number that the next new scope will have. */
        int nextScope() {
            return scopesMade;
        }

        int newScope() {
            scopesMade++;
            return scopesMade - 1;
        }

        /** A scope that is opened again is as deep as it was: functions with blocks are outermost. */
        void openScope(int scope) {
            if (depth <= MOST_OPEN) {
                depth++;
                openScopes[depth] = scope;
            }
        }

        void closeScope() {
            if (depth > 0) {
                depth--;
            }
        }

        private int meaningOf(int token) {
            int innermost = NONE;
            for (int k = 0; k < count; k++) {
                boolean open = depths[k] <= depth && openScopes[depths[k]] == scopes[k];
                boolean deeper = innermost == NONE || depths[k] > depths[innermost];
                if (open && deeper && tokens.words[nameTokens[k]] == tokens.words[token]) {
                    innermost = k;
                }
            }
            return innermost;
        }

        boolean isBase(int token) {
            int kind = tokens.kindAt(token);
            if (kind != NAME) {
                return kind == INT || kind == CHAR || kind == VOID;
            }
            int k = meaningOf(token);
            return k != NONE && sorts[k] == SORT_TYPE;
        }

        boolean meansThing(int token) {
            int k = meaningOf(token);
            return k != NONE && sorts[k] != SORT_TYPE;
        }

        boolean canDeclare(int token) {
            int k = meaningOf(token);
            return k == NONE || depths[k] < depth;
        }

        /** Notes that a name was taken for what it means, which is not nothing. */
        void use(int token) {
            int k = meaningOf(token);
            if (k != NONE) {
                roles[token] = sorts[k] == SORT_TYPE ? ROLE_TYPE : ROLE_THING;
                meanings[token] = k;
            }
        }

        /** Declares a name whose type is what was written from typeStart on; answers its number. */
        int declare(int token, int typeStart, boolean asType) {
            // There are never more names than rows; the smaller one only keeps the index in them.
            int k = Math.min(count, MOST_NAMES - 1);
            nameTokens[k] = token;
            scopes[k] = openScopes[depth];
            depths[k] = depth;
            typeStarts[k] = typeStart;
            typeEnds[k] = types.size;
            sorts[k] = sortOf(typeStart, asType);
            count = k + 1;
            roles[token] = asType ? ROLE_NEW_TYPE : ROLE_NEW_THING;
            meanings[token] = k;
            return k;
        }

        private int sortOf(int typeStart, boolean asType) {
            if (asType) {
                return SORT_TYPE;
            }
            // What applies first to a name is written first in its type.
            return types.cell(typeStart) == '(' ? SORT_FUNCTION : SORT_THING;
        }
    }

    /** Reads what types are made of and writes them, inside out, as the calls return. */
    private static final class Declarators {
        static final int NAMED = 0;
        static final int PARAMETER = 1;
        static final int ABSTRACT = 2;

        private final Cursor cursor;
        private final Tokens tokens;
        private final Names names;
        private final Tape types;

        Declarators(Cursor cursor, Tokens tokens, Names names) {
            this.cursor = cursor;
            this.tokens = tokens;
            this.names = names;
            types = names.types;
        }

        /** Answers the base's token. */
        int base() {
            cursor.require(names.isBase(cursor.position));
            int token = cursor.take();
            if (tokens.kindAt(token) == NAME) {
                names.use(token);
            }
            return token;
        }

        private void writeBase(int base) {
            switch (tokens.kindAt(base)) {
                case INT:
                    types.put('i');
                    break;
                case CHAR:
                    types.put('c');
                    break;
                case VOID:
                    types.put('v');
                    break;
                default:
                    types.putCount(names.meanings[base]);
                    types.put('.');
                    break;
            }
        }

        /** Reads a declarator behind its specifiers; answers the number of its declaration. */
        int namedDeclarator(int base, boolean asType) {
            int start = types.size;
            int name = declarator(NAMED);
            writeBase(base);
            return names.declare(name, start, asType);
        }

        /** Reads a PARAMETER or, as an ABSTRACT, a TYPENAME; its type is what is written then. */
        void typed(int manner) {
            int start = types.size;
            int base = base();
            int name = declarator(manner);
            writeBase(base);
            if (name != NONE) {
                names.declare(name, start, false);
            }
        }

        /** Answers the name's token, NONE when there is no name. */
        private int declarator(int manner) {
            int stars = stars();
            int name = direct(manner);
            for (int i = 0; i < MOST_CHARACTERS && (cursor.sees('[') || cursor.sees('(')); i++) {
                if (cursor.sees('[')) {
                    dimension();
                } else {
                    parameters();
                }
            }
            types.putTimes('*', stars);
            return name;
        }

        private int stars() {
            int stars = 0;
            for (int i = 0; i < MOST_CHARACTERS && cursor.sees('*'); i++) {
                cursor.take();
                stars++;
            }
            return stars;
        }

        private int direct(int manner) {
            if (cursor.sees(NAME) && manner != ABSTRACT) {
                cursor.require(names.canDeclare(cursor.position));
                return cursor.take();
            }
            if (cursor.sees('(') && isGroup(manner)) {
                cursor.take();
                int name = declarator(manner);
                cursor.expect(')');
                return name;
            }
            cursor.require(manner != NAMED);
            return NONE;
        }

        /** Whether the '(' here is that of a group, not of a suffix. */
        private boolean isGroup(int manner) {
            if (manner == NAMED) {
                return true;
            }
            switch (cursor.kindBehind()) {
                case '*', '(', '[':
                    return true;
                case NAME:
                    return manner == PARAMETER && !names.isBase(cursor.position + 1);
                default:
                    return false;
            }
        }

        private void dimension() {
            cursor.expect('[');
            types.put('[');
            if (cursor.sees(NUMBER)) {
                types.putWord(tokens.wordAt(cursor.take()));
            }
            cursor.expect(']');
            types.put(']');
        }

        private void parameters() {
            cursor.expect('(');
            types.put('(');
            names.openScope(names.newScope());
            if (cursor.sees(VOID) && cursor.kindBehind() == ')') {
                cursor.take();
            } else if (!cursor.sees(')')) {
                typed(PARAMETER);
                for (int i = 0; i < MOST_CHARACTERS && cursor.sees(','); i++) {
                    cursor.take();
                    types.put(',');
                    typed(PARAMETER);
                }
            }
            names.closeScope();
            cursor.expect(')');
            types.put(')');
        }
    }

    /** Reads expressions and writes them, what they are made of first. */
    private static final class Expressions {
        private static final char CAST = '[';
        private static final char CONTENT = '@';

        private final Cursor cursor;
        private final Tokens tokens;
        private final Names names;
        private final Declarators declarators;
        private final Tape plainForm;
        // What stands before operands that are not read yet: a stack of its own, as a text has
        // room for more of them in a row than calls should stand open.
        private final char[] prefixes = new char[MOST_CHARACTERS];
        private final int[] castStarts = new int[MOST_CHARACTERS];
        private final int[] castEnds = new int[MOST_CHARACTERS];
        private int prefixCount = 0;

        Expressions(Cursor cursor, Tokens tokens, Names names, Declarators declarators, Tape form) {
            this.cursor = cursor;
            this.tokens = tokens;
            this.names = names;
            this.declarators = declarators;
            plainForm = form;
        }

        void clear() {
            prefixCount = 0;
        }

        void expression() {
            int assignments = 0;
            boolean place = sum();
            for (int i = 0; i < MOST_CHARACTERS && place && cursor.sees('='); i++) {
                cursor.take();
                assignments++;
                place = sum();
            }
            if (cursor.sees('<')) {
                cursor.take();
                sum();
                plainForm.put('<');
            }
            plainForm.putTimes('=', assignments);
        }

        /** Answers, as those below do, whether what was read is a PLACE. */
        private boolean sum() {
            boolean place = product();
            for (int i = 0; i < MOST_CHARACTERS && (cursor.sees('+') || cursor.sees('-')); i++) {
                char sign = (char) cursor.kindHere();
                cursor.take();
                product();
                plainForm.put(sign);
                place = false;
            }
            return place;
        }

        private boolean product() {
            boolean place = cast();
            for (int i = 0; i < MOST_CHARACTERS && (cursor.sees('*') || cursor.sees('/')); i++) {
                char sign = (char) cursor.kindHere();
                cursor.take();
                cast();
                plainForm.put(sign);
                place = false;
            }
            return place;
        }

        private boolean cast() {
            int bottom = prefixCount;
            boolean behindSizeof = false;
            boolean needsOperand = true;
            for (int i = 0; i < MOST_CHARACTERS && needsOperand && seesPrefix(); i++) {
                char prefix = prefixFor(cursor.kindHere());
                // Behind 'sizeof' a UNARY may stand, but no CAST: a TYPENAME ends it.
                needsOperand = prefix != CAST || !behindSizeof;
                behindSizeof = cursor.sees(SIZEOF);
                cursor.take();
                int start = names.types.size;
                if (prefix == CAST) {
                    declarators.typed(Declarators.ABSTRACT);
                    cursor.expect(')');
                }
                push(prefix, start, names.types.size);
            }
            boolean place = needsOperand && postfix();
            if (prefixCount > bottom) {
                place = prefixes[bottom] == CONTENT;
            }
            popTo(bottom);
            return place;
        }

        private boolean seesPrefix() {
            switch (cursor.kindHere()) {
                case '-', '*', '&', '!', SIZEOF:
                    return true;
                case '(':
                    return names.isBase(cursor.position + 1);
                default:
                    return false;
            }
        }

        private static char prefixFor(int kind) {
            switch (kind) {
                case '(':
                    return CAST;
                case '-':
                    return '~';
                case '*':
                    return CONTENT;
                case SIZEOF:
                    return '$';
                default:
                    return (char) kind;
            }
        }

        private void push(char prefix, int castStart, int castEnd) {
            if (prefixCount < MOST_CHARACTERS) {
                prefixes[prefixCount] = prefix;
                castStarts[prefixCount] = castStart;
                castEnds[prefixCount] = castEnd;
                prefixCount++;
            }
        }

        /** The prefix that stands last applies first. */
        private void popTo(int bottom) {
            for (int i = prefixCount - 1; i >= bottom; i--) {
                plainForm.put(prefixes[i]);
                if (prefixes[i] == CAST) {
                    plainForm.putPart(names.types, castStarts[i], castEnds[i]);
                    plainForm.put(']');
                }
            }
            prefixCount = bottom;
        }

        private boolean postfix() {
            boolean place = primary();
            for (int i = 0; i < MOST_CHARACTERS && (cursor.sees('[') || cursor.sees('(')); i++) {
                if (cursor.sees('[')) {
                    index();
                } else {
                    call();
                }
                place = true;
            }
            return place;
        }

        private void index() {
            cursor.expect('[');
            expression();
            cursor.expect(']');
            plainForm.put(']');
        }

        private void call() {
            cursor.expect('(');
            int arguments = 0;
            if (!cursor.sees(')')) {
                expression();
                arguments = 1;
                for (int i = 0; i < MOST_CHARACTERS && cursor.sees(','); i++) {
                    cursor.take();
                    expression();
                    arguments++;
                }
            }
            cursor.expect(')');
            plainForm.put('(');
            plainForm.putCount(arguments);
            plainForm.put(')');
        }

        private boolean primary() {
            switch (cursor.kindHere()) {
                case '(':
                    cursor.take();
                    expression();
                    cursor.expect(')');
                    return false;
                case NAME:
                    cursor.require(names.meansThing(cursor.position));
                    names.use(cursor.position);
                    writeAtom(cursor.take());
                    return true;
                default:
                    writeAtom(cursor.expect(NUMBER));
                    return false;
            }
        }

        private void writeAtom(int token) {
            plainForm.putWord(tokens.wordAt(token));
            plainForm.put(' ');
        }
    }

    /** Reads programs, their declarations and statements, and writes their plain form. */
    private static final class Programs {
        private final Cursor cursor;
        private final Tokens tokens;
        private final Names names;
        private final Tape plainForm;
        private final Declarators declarators;
        private final Expressions expressions;

        Programs(Tokens tokens, Names names, Tape form) {
            cursor = new Cursor(tokens);
            this.tokens = tokens;
            this.names = names;
            plainForm = form;
            declarators = new Declarators(cursor, tokens, names);
            expressions = new Expressions(cursor, tokens, names, declarators, form);
        }

        /** Reads the tokens as a PROGRAM; answers which one is refused, NONE when none is. */
        int firstUnfit() {
            clear();
            cursor.restart();
            names.openScope(names.newScope());
            try {
                for (int i = 0; i < MOST_CHARACTERS && !cursor.sees(END); i++) {
                    declaration(true);
                }
            } catch (IllegalArgumentException refusal) {
                clear();
                return cursor.position;
            }
            return NONE;
        }

        private void clear() {
            names.clear();
            expressions.clear();
            plainForm.clear();
        }

        private void declaration(boolean outermost) {
            int start = cursor.position;
            int base = specifiers();
            boolean asType = cursor.position - start == 2;
            boolean more = !cursor.sees(';');
            for (int i = 0; i < MOST_CHARACTERS && more; i++) {
                // The parameters that make a function are the first scope its declarator opens.
                int parameters = names.nextScope();
                int k = declarators.namedDeclarator(base, asType);
                writeDeclared(k);
                if (outermost && i == 0 && cursor.sees('{') && names.sorts[k] == SORT_FUNCTION) {
                    block(parameters);
                    return;
                }
                if (cursor.sees('=')) {
                    cursor.take();
                    expressions.expression();
                    plainForm.put('=');
                }
                plainForm.put(';');
                more = cursor.sees(',');
                if (more) {
                    cursor.take();
                }
            }
            cursor.expect(';');
        }

        /** Answers the base's token; there are two tokens when one of them is 'typedef'. */
        private int specifiers() {
            if (cursor.sees(TYPEDEF)) {
                cursor.take();
                return declarators.base();
            }
            int base = declarators.base();
            if (cursor.sees(TYPEDEF)) {
                cursor.take();
            }
            return base;
        }

        private void writeDeclared(int k) {
            if (names.sorts[k] == SORT_TYPE) {
                plainForm.put('#');
            }
            plainForm.putWord(tokens.wordAt(names.nameTokens[k]));
            plainForm.put(':');
            plainForm.putPart(names.types, names.typeStarts[k], names.typeEnds[k]);
        }

        private void block(int scope) {
            cursor.expect('{');
            names.openScope(scope);
            plainForm.put('{');
            for (int i = 0; i < MOST_CHARACTERS && !cursor.sees('}'); i++) {
                if (cursor.sees(TYPEDEF) || names.isBase(cursor.position)) {
                    declaration(false);
                } else {
                    statement();
                }
            }
            cursor.expect('}');
            plainForm.put('}');
            names.closeScope();
        }

        private void statement() {
            switch (cursor.kindHere()) {
                case '{':
                    block(names.newScope());
                    break;
                case ';':
                    endWith(';');
                    break;
                case IF:
                    choice();
                    break;
                case WHILE:
                    cursor.take();
                    conditional('%');
                    break;
                case RETURN:
                    cursor.take();
                    if (!cursor.sees(';')) {
                        expressions.expression();
                    }
                    endWith('^');
                    break;
                default:
                    expressions.expression();
                    endWith(';');
                    break;
            }
        }

        private void endWith(char sign) {
            cursor.expect(';');
            plainForm.put(sign);
        }

        private void choice() {
            cursor.expect(IF);
            conditional('?');
            if (cursor.sees(ELSE)) {
                cursor.take();
                plainForm.put(':');
                statement();
                cursor.endStatement();
            }
        }

        /** Reads what stands behind 'if' or 'while', up to the end of the first statement. */
        private void conditional(char sign) {
            cursor.expect('(');
            expressions.expression();
            cursor.expect(')');
            plainForm.put(sign);
            statement();
            cursor.endStatement();
        }
    }
}
