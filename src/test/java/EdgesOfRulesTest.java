/**
 * The document's edges, sentence by sentence: terms 1 (EVENTS, THE TAPE, a RULE, FAULTS, what holds
 * where) and promises 1 to 5. Each function is one sentence, which stands above it.
 */
public final class EdgesOfRulesTest {
    private static final int OUTSIDE = -2, FULL = -4;
    private static final String ONES = "abcd.!NWGFYHO(";
    private static final String BEHIND_ONES = ">/&US";

    public static void main(String[] args) {
        tapeHoldsSixtyBytes();
        feedThatDoesNotFitChangesNothing();
        zeroEndsWhatIsFed();
        lowestByteComesFirst();
        bytesAreWhatTheyAre();
        blanksStandAnywhere();
        firstByteOfARule();
        byteBehindAOne();
        byteWithinABracket();
        theEnd();
        tenthNode();
        nineNodes();
        bracketInSevenOthers();
        syntaxGoesAheadOfPast();
        pastWithinWhatFollows();
        pastOnEitherSideOfS();
        pastBeside();
        firstOfSeveralPasts();
        fromTheLeft();
        toTheRight();
        eachTextOfFourSigns();
        nextPlace();
        everyPlace();
        somePlace();
        until();
        placeAhead();
        everyPlaceAhead();
        somePlaceAhead();
        since();
        withoutPlaces();
        runWithoutEvents();
        newObject();
        readEmptiesTheTape();
        readOfAFaultChangesNothing();
        sixtyStates();
        readOfTooManyStatesChangesNothing();
        faultOfTheLatestRead();
        cutTellsWhatItHad();
        Due.end();
    }

    private static void due(String call, long got, long want) {
        Due.due(call, got, want);
    }

    private static String times(int many, String text) {
        return text.repeat(many);
    }

    private static RunWatcher tapeOf(int bytes) {
        RunWatcher x = new RunWatcher();
        Due.feed(x, times(bytes, " "));
        return x;
    }

    private static void sound(String text, int states) {
        RunWatcher x = new RunWatcher();
        due("read() of '" + text + "'", Due.read(x, text), states);
        due("fault() of '" + text + "'", x.fault(), 0);
    }

    private static void syntax(String text, int at) {
        faulty(text, 1, at);
    }

    private static void past(String text, int at) {
        faulty(text, 2, at);
    }

    private static void faulty(String text, int kind, int at) {
        RunWatcher x = new RunWatcher();
        due("read() of '" + text + "'", Due.read(x, text), -100 - at);
        due("fault() of '" + text + "'", x.fault(), kind);
        due("bytes that stay of '" + text + "'", x.count(3), text.length());
    }

    private static void noFault(String text) {
        RunWatcher x = new RunWatcher();
        due("read() of '" + text + "' finds no fault", Due.read(x, text) > 0 ? 1 : 0, 1);
        due("fault() of '" + text + "'", x.fault(), 0);
    }

    /** "THE TAPE has bytes, 60 at most"; "FULL". */
    private static void tapeHoldsSixtyBytes() {
        for (int had = 45; had <= 60; had++) {
            for (int more = 0; more <= 8; more++) {
                RunWatcher x = tapeOf(had);
                long word = more == 0 ? 0 : Due.words(times(more, "a"))[0];
                due("feed of " + more + " behind " + had, x.feed(word), had + more > 60 ? FULL : had + more);
                due("bytes then", x.count(3), had + more > 60 ? had : had + more);
            }
        }
        syntax(times(59, " ") + "e", 59);
        syntax(times(60, " "), 60);
        sound(times(59, " ") + "a", 3);
        sound("a" + times(59, " "), 3);
    }

    /** "FULL" and "What is refused changes nothing": not even those bytes come that had room. */
    private static void feedThatDoesNotFitChangesNothing() {
        RunWatcher x = new RunWatcher();
        Due.feed(x, "F" + times(56, " "));
        due("57 bytes", x.count(3), 57);
        due("four more", x.feed(Due.words("bbbb")[0]), FULL);
        due("eight more", x.feed(Due.words("bbbbbbbb")[0]), FULL);
        due("57 bytes still", x.count(3), 57);
        due("three more", x.feed(Due.words("  a")[0]), 60);
        due("one more", x.feed('b'), FULL);
        due("60 bytes still", x.count(3), 60);
        due("nothing of what was refused stands there", x.read(), 3);
        due("it says Fa", x.verdict(x.leads(0, 0)), 3);
        due("it does not say Fb", x.verdict(x.leads(0, 1)), 0);
        due("there is room again", x.feed(Due.words("bbbbbbbb")[0]), 8);
    }

    /** "as far as they are not 0 (a 0 ends them)". */
    private static void zeroEndsWhatIsFed() {
        RunWatcher x = new RunWatcher();
        due("0", x.feed(0), 0);
        due("the lowest is 0", x.feed(0x6161616161616100L), 0);
        due("the lowest is 0, the sign is set", x.feed(Long.MIN_VALUE), 0);
        for (int i = 0; i < 8; i++) {
            RunWatcher y = new RunWatcher();
            due("byte " + i + " is 0", y.feed(0x6161616161616161L & ~(255L << (8 * i))), i);
        }
        due("none is 0", new RunWatcher().feed(0x6161616161616161L), 8);
        due("all are 255", new RunWatcher().feed(-1L), 8);
        due("the highest is 128", new RunWatcher().feed(0x8061616161616161L), 8);
        due("a zero's like behind it does not come", x.feed(0x62_00_61L), 1);
        due("only what is ahead of the 0 came", x.read(), 3);
        due("it says a", x.verdict(x.leads(0, 0)), 3);
        due("bytes behind a 0 need no room", tapeOf(59).feed(0x6161616161_00_61L), 60);
        due("none needs no room", tapeOf(60).feed(0x6161616161616100L), 60);
    }

    /** "Eight bytes come behind THE TAPE, the lowest of w first". */
    private static void lowestByteComesFirst() {
        RunWatcher x = new RunWatcher();
        due("aUb", x.feed('a' | 'U' << 8 | 'b' << 16), 3);
        x.read();
        due("b ends it", x.verdict(x.leads(0, 1)), 3);
        due("a does not", x.verdict(x.leads(0, 0)), 0);
        x.feed(Due.words("GGGGGGGG")[0]);
        due("behind them", x.feed('a'), 9);
        due("GGGGGGGGa", x.read(), 2);
        due("the eighth comes ahead of the next feed's", Due.read(x, "a      & N b") > 0 ? 1 : 0, 1);
        due("a&Nb", x.verdict(x.leads(x.leads(0, 0), 1)), 3);
    }

    /** "THE TAPE has bytes": of each value but 0, and a letter is that byte alone. */
    private static void bytesAreWhatTheyAre() {
        for (int value = 1; value < 256; value++) {
            RunWatcher x = new RunWatcher();
            due("byte " + value + " comes", x.feed(value), 1);
            due("byte " + value + " and a's high bits", new RunWatcher().feed((long) value << 56 | 0x61616161616161L), 8);
        }
        syntax("\u00e1", 0);
        syntax("a&\u00e1", 2);
        syntax("a\u00a0", 1);
        syntax("\u0001", 0);
        syntax("\u00ff", 0);
    }

    /** "blanks (32) may stand anywhere", and nothing else that looks like them. */
    private static void blanksStandAnywhere() {
        sound("   G   (   a   >   F   b   )   ", 2);
        sound(" a U b ", 4);
        sound("a U b", 4);
        sound("  !  !  a", 3);
        sound(" ", "a", 3);
        for (int value : new int[] {9, 10, 11, 12, 13, 31, 33, 95, 127, 133, 160}) {
            if (value != '!') {
                syntax((char) value + "a", 0);
            }
            syntax("a" + (char) value, 1);
            syntax("a " + (char) value + "&b", 2);
        }
        syntax("a b", 2);
        syntax("  a   b", 6);
        past(" Y  N a", 4);
        past(" a  S  G a", 7);
        syntax("( a  ", 5);
        syntax("!!!!!!!!!     a", 14);
        sound("( ( ( ( ( ( ( ( a ) ) ) ) ) ) ) )", 3);
        syntax("( ( ( ( ( ( ( ( ( a", 16);
    }

    private static void sound(String blank, String text, int states) {
        sound(blank + text, states);
        sound(text + blank, states);
    }

    /** "the first byte that cannot stand there": at the beginning. */
    private static void firstByteOfARule() {
        for (int value = 1; value < 256; value++) {
            String text = String.valueOf((char) value);
            if ("abcd.".indexOf(value) >= 0) {
                noFault(text);
            } else {
                syntax(text, ONES.indexOf(value) >= 0 || value == ' ' ? 1 : 0);
            }
        }
    }

    /** "the first byte that cannot stand there": where a ONE is whole. */
    private static void byteBehindAOne() {
        for (String one : new String[] {"a", "d", ".", "!a", "Nb", "Yc", "(a)", "aUb", "a&b", "a>b"}) {
            for (int value = 1; value < 256; value++) {
                String text = one + (char) value;
                if (value == ' ') {
                    noFault(text);
                } else {
                    syntax(text, BEHIND_ONES.indexOf(value) >= 0 ? text.length() : one.length());
                }
            }
        }
    }

    /** "the first byte that cannot stand there": within a bracket, where a ) may stand too. */
    private static void byteWithinABracket() {
        for (int value = 1; value < 256; value++) {
            String begun = "(" + (char) value;
            if ("abcd.".indexOf(value) >= 0) {
                noFault(begun + ")");
            } else {
                syntax(begun, ONES.indexOf(value) >= 0 || value == ' ' ? 2 : 1);
            }
            String behind = "(a" + (char) value;
            if (value == ')') {
                noFault(behind);
            } else {
                syntax(behind, BEHIND_ONES.indexOf(value) >= 0 || value == ' ' ? 3 : 2);
            }
        }
        syntax("()", 1);
        syntax("a)", 1);
        syntax(")", 0);
        syntax("(a))", 3);
        syntax("((a)", 4);
        syntax("(a)(b)", 3);
        syntax("(a)b", 3);
    }

    /** "(or the end)": its byte is the one behind the last. */
    private static void theEnd() {
        syntax("", 0);
        for (String text : new String[] {" ", "!", "N", "a&", "a>", "a/", "aU", "aS", "(", "(a", "Y(a&", "((a)", "a>(b"}) {
            syntax(text, text.length());
            syntax(text + "   ", text.length() + 3);
        }
        syntax(times(8, "!") + "(", 9);
        syntax("a" + times(58, " ") + "&", 60);
    }

    /** "or that begins the 10th NODE (a b c d . and each sign > / & U S ! N W G F Y H O are one)". */
    private static void tenthNode() {
        for (char sign : "abcd.!NWGFYHO".toCharArray()) {
            syntax(times(9, "!") + sign, 9);
            syntax(times(9, "!") + sign + "a", 9);
            syntax("a&b&c&d&(!" + sign, 10);
        }
        for (char sign : BEHIND_ONES.toCharArray()) {
            syntax(times(8, "!") + "a" + sign, 9);
            syntax(times(8, "!") + "a" + sign + "a", 9);
            syntax("(a&b&c&d&a)" + sign + "b", 11);
        }
        for (char sign : ("abcd.!NWGFYHO" + BEHIND_ONES).toCharArray()) {
            boolean one = "abcd.".indexOf(sign) >= 0;
            boolean between = BEHIND_ONES.indexOf(sign) >= 0;
            String begun = one ? "" + sign : between ? "a" + sign + "a" : sign + "a";
            int free = one ? 8 : between ? 6 : 7;
            noFault(times(free, "!") + begun);
            syntax(times(free + 1, "!") + begun, 9);
        }
        syntax(times(9, "!") + "e", 9);
        syntax(times(8, "!") + "e", 8);
        syntax(times(9, "!") + ")", 9);
        syntax(times(9, "!"), 9);
    }

    /** Neither brackets nor blanks are NODES, and nine NODES may stand. */
    private static void nineNodes() {
        sound("!!!!!!!!a", 3);
        sound("a&a&a&a&a", 3);
        sound("a/a/a/a/a", 3);
        sound("a>a>a>a>a", 1);
        sound("((a&a)&(a&a))&(((a)))", 3);
        sound("(((((((!!!!!!!!a)))))))", 3);
        sound("  !  ! ! ! ! ! ! ! ( a ) ", 3);
        sound("NNNNNNNNa", 11);
        sound("YYYYYYYYa", 2);
        sound("aUaUaUaUa", 3);
        sound("aSaSaSaSa", 3);
    }

    /** "or is a ( in more than 7 others": those that are open, not those that are closed. */
    private static void bracketInSevenOthers() {
        for (int deep = 1; deep <= 8; deep++) {
            sound(times(deep, "(") + "a" + times(deep, ")"), 3);
        }
        for (int deep = 9; deep <= 20; deep++) {
            syntax(times(deep, "(") + "a" + times(deep, ")"), 8);
        }
        syntax(times(9, "("), 8);
        syntax(times(8, "("), 8);
        sound("!(!(!(!(!(!(!(!(a))))))))", 3);
        syntax("!(!(!(!(!(!(!(!((a)))))))))", 16);
        sound("((a))&((a))&((a))&((a))&((a))", 3);
        sound("((((((((a))))))))&((((((((a))))))))", 3);
        syntax("((((((((a))))))))&(((((((((a)))))))))", 26);
        sound("(((((((a)&(a)))))))", 3);
                syntax("((((((((a)&((a))))))))", 12);
        syntax("((((((((a&(a))))))))", 10);
    }

    /** "only if there is none, 2 PAST": a syntax fault goes ahead, wherever it stands. */
    private static void syntaxGoesAheadOfPast() {
        past("YNa", 1);
        syntax("YNa)", 3);
        syntax("YNa b", 4);
        syntax("YN", 2);
        syntax("Y(Na", 4);
        syntax("(NaSb", 5);
        past("NaSb", 0);
        syntax("NaSb(", 4);
        past("YN!!!!!!a", 1);
        syntax("YN!!!!!!!a", 9);
        past("YN((((((((a))))))))", 1);
        syntax("YN(((((((((a", 10);
        syntax("e" + "YNa", 0);
    }

    /** "the first of N W G F U that lies within what follows Y H O". */
    private static void pastWithinWhatFollows() {
        for (char outer : "YHO".toCharArray()) {
            for (char inner : "NWGF".toCharArray()) {
                past("" + outer + inner + "a", 1);
                past("" + outer + "!" + inner + "a", 2);
                past("" + outer + "(a&" + inner + "b)", 4);
                past("" + outer + "(" + inner + "b&a)", 2);
                past("" + outer + "H!(a/" + inner + "c)", 6);
                past("N" + outer + inner + "a", 2);
                past("a U(b&" + outer + inner + "c)", 7);
            }
            past(outer + "(aUb)", 3);
            past(outer + "!(a&(bUc))", 7);
            noFault(outer + "H!(a/Oc)");
            noFault(outer + "(aSb)");
            noFault("" + outer + "YHOa");
        }
    }

    /** "or on either side of an S (at its byte)". */
    private static void pastOnEitherSideOfS() {
        for (char inner : "NWGF".toCharArray()) {
            past(inner + "aSb", 0);
            past("aS" + inner + "b", 2);
            past("!" + inner + "aSb", 1);
            past("(b&" + inner + "a)Sc", 3);
            past("aS(b/" + inner + "c)", 5);
            past("aSbS" + inner + "c", 4);
            past("N(aS!" + inner + "b)", 5);
        }
        past("(aUb)Sc", 2);
        past("aS(bUc)", 4);
        past("aSbUc", 3);
        past("aSbSbUc", 5);
    }

    /** What lies beside Y H O, or beside a whole S, is not within. */
    private static void pastBeside() {
        noFault("YaUb");
        noFault("aUYb");
        noFault("Ya&Nb");
        noFault("Y(a)>N(b)");
        noFault("(Ya)Ub");
        noFault("NYa");
        noFault("GFHOa");
        noFault("aUbSc");
        noFault("aSb&Nc");
        noFault("Na/aSb");
        noFault("(aSb)UNc");
        noFault("Na>(bSc)>Gd");
    }

    /** "the first of": by its byte, not by what lies within what. */
    private static void firstOfSeveralPasts() {
        past("Y(Na&Gb)", 2);
        past("Y(aUNb)", 3);
        past("Y((Na)Ub)", 3);
        past("(aUb)SNc", 2);
        past("NaSNb", 0);
        past("Fa&Y(Gb&Fc)", 5);
        past("Y(a&Gb)&YFa", 4);
        past("YNNNa", 1);
        past("a&YWb&YGc", 3);
        past("Na&YWb", 4);
        past("N(aSb)&(cSGd)", 10);
    }

    private static void sameAs(String one, String other, boolean same) {
        RunWatcher x = Due.with(one);
        x.keep();
        Due.read(x, other);
        due("'" + one + "' says what '" + other + "' says", x.against() == 1 ? 1 : 0, same ? 1 : 0);
    }

    /** "BOTH with / between (from the left)", "PAIR with & between (likewise)": and & binds first. */
    private static void fromTheLeft() {
        sameAs("a/b/Nc", "(a/b)/Nc", true);
        sameAs("a/b&Nc", "a/(b&Nc)", true);
        sameAs("a/b&Nc", "(a/b)&Nc", false);
        sameAs("Nc&a/b", "(Nc&a)/b", true);
        sameAs("Nc&a/b", "Nc&(a/b)", false);
        sameAs("a&NbUc", "a&(NbUc)", true);
        sameAs("a&NbUc", "(a&Nb)Uc", false);
        sameAs("aUb&Nc", "(aUb)&Nc", true);
        sameAs("aUb&Nc", "aU(b&Nc)", false);
    }

    /** "EITHER > RULE", "ONE U PAIR, or ONE S PAIR", "one of N W G F Y H O, then ONE". */
    private static void toTheRight() {
        sameAs("a>b>Nc", "a>(b>Nc)", true);
        sameAs("a>b>Nc", "(a>b)>Nc", false);
        sameAs("Na>b/c", "Na>(b/c)", true);
        sameAs("Na>b&c", "Na>(b&c)", true);
        sameAs("Na>b&c", "(Na>b)&c", false);
        sameAs("a/Nb>c", "(a/Nb)>c", true);
        sameAs("a/Nb>c", "a/(Nb>c)", false);
        sameAs("aUbUc", "aU(bUc)", true);
        sameAs("aUbUc", "(aUb)Uc", false);
        sameAs("NNN(aSbSc)", "NNN(aS(bSc))", true);
        sameAs("NNN(aSbSc)", "NNN((aSb)Sc)", false);
        sameAs("aUN(bSc)", "aU(N(bSc))", true);
        sameAs("FaUb", "(Fa)Ub", true);
        sameAs("FaUb", "F(aUb)", false);
        sameAs("!a&b", "(!a)&b", true);
        sameAs("!a/b", "!(a/b)", false);
        sameAs("N!a", "!Wa", true);
    }

    /** Every text of at most four signs: where its fault stands, and of which kind, or that it has none. */
    private static void eachTextOfFourSigns() {
        String signs = "a.!&/>UNSY() e";
        RunWatcher x = null;
        for (int length = 1; length <= 4; length++) {
            int many = (int) Math.pow(signs.length(), length);
            for (int number = 0; number < many; number++) {
                x = number % 100 == 0 ? new RunWatcher() : x;
                StringBuilder text = new StringBuilder();
                for (int rest = number, i = 0; i < length; i++, rest /= signs.length()) {
                    text.append(signs.charAt(rest % signs.length()));
                }
                oneText(x, text.toString());
            }
        }
    }

    private static void oneText(RunWatcher x, String text) {
        Sentence sentence = new Sentence(text);
        int answer = Due.read(x, text);
        due("'" + text + "' read()", sentence.kind == 0 ? Math.min(answer, 0) : answer,
            sentence.kind == 0 ? 0 : -100 - sentence.at);
        due("'" + text + "' fault()", x.fault(), sentence.kind);
    }

    /** Whether a run, told by its letters, keeps a rule, as the verdict behind it says. */
    private static void keeps(String rule, String runs, boolean kept) {
        RunWatcher x = Due.with(rule);
        for (String run : runs.split(" ")) {
            int state = 0;
            for (char letter : run.toCharArray()) {
                state = x.leads(state, letter - 'a');
            }
            due(run + (kept ? " keeps " : " does not keep ") + rule, x.verdict(state) & 1, kept ? 1 : 0);
        }
    }

    private static void kept(String rule, String runs) {
        keeps(rule, runs, true);
    }

    private static void broken(String rule, String runs) {
        keeps(rule, runs, false);
    }

    /** "N: there is a next place, and it holds there; W: there is no next place, or it holds there". */
    private static void nextPlace() {
        kept("Na", "aa ba bab");
        broken("Na", "a b ab bba");
        kept("Wa", "a b aa ba bab");
        broken("Wa", "ab bb bba");
        kept("N.", "aa dddd");
        broken("N.", "a d");
        kept("W!.", "a d");
        broken("W!.", "aa dd aaa");
        broken("N!.", "a aa aaa");
        kept("NWa", "ab bba cca");
        broken("NWa", "a b abb");
        kept("WNa", "a b bba");
        broken("WNa", "ab bb bbb");
    }

    /** "G: it holds here and at all places behind". */
    private static void everyPlace() {
        kept("Ga", "a aa aaaa");
        broken("Ga", "b ab ba aab baa");
        kept("NGa", "ba baa aa");
        broken("NGa", "a b bab bb aab");
        kept("GWa", "a b aa ba baa");
        broken("GWa", "ab bb bab");
        broken("GNa", "a aa aaa");
    }

    /** "F: here or at one behind". */
    private static void somePlace() {
        kept("Fa", "a ab ba bba bab");
        broken("Fa", "b bb bcd");
        kept("NFa", "aa ba bba bab");
        broken("NFa", "a b ab abb");
        kept("F!N.", "a b abc");
    }

    /** "x U y: y holds here or at a place behind, and x at all from here on ahead of that". */
    private static void until() {
        kept("aUb", "b ab aab bc abc bb bab");
        broken("aUb", "a aa c cb acb aacb d");
        kept("NaUb", "b ba bc");
        broken("NaUb", "a c ab cab aca");
        kept("N!cUb", "b ab cb cab cdab");
        broken("N!cUb", "a acb c cd cdcb");
        kept("aUNb", "ab cb aab bb");
        broken("aUNb", "a b c ccb");
        kept("aUWb", "a b c ac aac ab");
        broken("aUWb", "cc ca bc");
        kept("N(aUb)", "cb bb cab");
        broken("N(aUb)", "b ccb ac");
    }

    /** "Y: there is a place ahead, and it holds there". */
    private static void placeAhead() {
        broken("Ya", "a aa b aaa");
        broken("Y.", "a aa b");
        kept("!Ya", "a b aa");
        kept("NYa", "ab aa ac");
        broken("NYa", "a b ba bb");
        kept("F(b&Ya)", "ab cab aba");
        broken("F(b&Ya)", "a b ba acb bb");
        kept("NNYa", "bab aaa");
        broken("NNYa", "abb ab a abba");
        kept("NNYYa", "abb aaa");
        broken("NNYYa", "bab ba a");
        broken("NYYa", "a aa ab aaa");
    }

    /** "H: it holds here and at all ahead". */
    private static void everyPlaceAhead() {
        kept("Ha", "a ab abb");
        broken("Ha", "b ba");
        kept("NHa", "aa aab");
        broken("NHa", "a ab ba bb");
        kept("NNHa", "aaa aaab");
        broken("NNHa", "baa aba aab aa");
        kept("F(b&YHa)", "ab aab aba");
        broken("F(b&YHa)", "b cab ba acb");
        kept("NH!b", "aa ac");
        kept("GHa", "a aa");
        broken("GHa", "ab ba");
    }

    /** "O: here or at one ahead". */
    private static void somePlaceAhead() {
        kept("Oa", "a ab");
        broken("Oa", "b ba bba");
        kept("NOa", "aa ab ba");
        broken("NOa", "a b bb bba");
        kept("NNOa", "abb bab bba");
        broken("NNOa", "bbb bb ab bbba");
        kept("G(b>Oa)", "a ab c cab aabb");
        broken("G(b>Oa)", "b cba cb");
    }

    /** "x S y: y holds here or at a place ahead, and x at all behind that up to here". */
    private static void since() {
        kept("aSb", "b ba bc");
        broken("aSb", "a c ab cb");
        kept("N(aSb)", "ba bb cb ab bac");
        broken("N(aSb)", "b aa bc ca cc a");
        kept("NN(aSb)", "baa bba bbb cba ccb bab");
        broken("NN(aSb)", "bca bac aaa caa bcc ba");
        kept("G(c>(!dSa))", "a ac abc bb da adac");
        broken("G(c>(!dSa))", "c adc bc dc");
        kept("NN(YaSb)", "bab ccb");
        broken("NN(YaSb)", "bba bca ccc");
    }

    /** "a letter holds, if the EVENT is it; . always; ! .. not; & both, / one at least, > not .. or ..". */
    private static void withoutPlaces() {
        String letters = "abcd";
        for (char letter : letters.toCharArray()) {
            for (char event : letters.toCharArray()) {
                keeps("" + letter, event + " " + event + "a", letter == event);
                keeps("!" + letter, event + " " + event + "a", letter != event);
            }
        }
        kept(".", "a b c d ab dc");
        broken("!.", "a b c d ab dc");
        String[] first = {"Na", "!Na"};
        String[] second = {"b", "!b"};
        for (int i = 0; i < 4; i++) {
            String run = (i % 2 == 0 ? "b" : "c") + (i / 2 == 0 ? "a" : "b");
            boolean x = i / 2 == 0;
            boolean y = i % 2 == 0;
            keeps(first[0] + "&" + second[0], run, x && y);
            keeps(first[0] + "/" + second[0], run, x || y);
            keeps(first[0] + ">" + second[0], run, !x || y);
            keeps(first[1] + ">" + second[0], run, x || y);
            keeps(first[0] + ">" + second[1], run, !x || !y);
        }
    }

    /** "A RUN (of one EVENT at least) KEEPS ..", "The one without EVENTS counts as keeping any RULE". */
    private static void runWithoutEvents() {
        for (String rule : new String[] {"!.", "a&b", "N.", "Fa", "Ya", "NNNa", "Ga", "a"}) {
            RunWatcher x = Due.with(rule);
            due(rule + " verdict(0)", x.verdict(0) & 1, 1);
            due(rule + " runs(0, 0)", x.runs(0, 0), 1);
            due(rule + " told(0)", x.told(0) & 1, 1);
        }
        due("!. is kept by no run of one", Due.with("!.").runs(0, 1), 0);
        due("!. is kept by no run of two", Due.with("!.").runs(0, 2), 0);
    }

    /** Promise 1: "No RULE, an empty TAPE." */
    private static void newObject() {
        RunWatcher x = new RunWatcher();
        due("no bytes", x.count(3), 0);
        due("no states", x.count(0), 0);
        due("no sure ones", x.count(1), 0);
        due("no keys let go", x.count(2), 0);
        due("no watcher kept", x.count(4), 0);
        due("no fault", x.fault(), 0);
        due("cut", x.cut(), 0);
        due("read", x.read(), -100);
        due("there is still no rule", x.leads(0, 0), RunWatcher.STATE);
        due("all sixty bytes come", tapeOf(60).count(3), 60);
    }

    /** Promise 3: "all KEYS without EVENTS; THE TAPE is empty: how many STATES". */
    private static void readEmptiesTheTape() {
        RunWatcher x = Due.with("aUb");
        due("the tape is empty", x.count(3), 0);
        due("a second read finds the end at once", x.read(), -100);
        due("of kind 1", x.fault(), 1);
        due("the rule stays", x.count(0), 4);
        for (int key = 0; key < 16; key++) {
            x.event(0, key);
            x.lost(key, 1);
        }
        x.event(3, 7);
        Due.feed(x, "aUb");
        due("read of the same rule", x.read(), 4);
        for (int key = 0; key < 16; key++) {
            due("events(" + key + ")", x.events(key), 0);
            due("may(" + key + ")", x.may(key), 1);
            due("state(" + key + ", 0)", x.state(key, 0), 0);
            due("told(" + key + ")", x.told(key), 1);
        }
        due("none is let go", x.count(2), 0);
        due("of one state", Due.with(".").count(0), 1);
        due("the first byte that is fed then is byte 0", Due.read(x, "e"), -100);
    }

    private static RunWatcher inUse() {
        RunWatcher x = Due.with("Fa");
        x.keep();
        Due.read(x, "G(a>Fb)");
        x.event(0, 5);
        x.event(1, 6);
        x.lost(6, 1);
        return x;
    }

    private static void isAsInUse(RunWatcher x) {
        due("states stay", x.count(0), 2);
        due("leads stays", x.leads(0, 0), 1);
        due("verdicts stay", x.verdict(1), 0);
        due("distances stay", x.far(1, 1), 1);
        due("ways stay", x.runs(0, 5), 528);
        due("events of 5 stay", x.events(5), 1);
        due("state of 5 stays", x.state(5, 0), 1);
        due("may of 6 stays", x.may(6), 2);
        due("what is kept stays", x.count(4), 1);
        due("what is kept stays the same", x.against(), 0);
        due("apart stays", x.apart(), 1);
    }

    /** Promise 3: "-100 less the byte of a FAULT (all stays)". */
    private static void readOfAFaultChangesNothing() {
        RunWatcher x = inUse();
        Due.feed(x, "cU");
        due("a fault of kind 1", x.read(), -102);
        due("its kind", x.fault(), 1);
        due("two bytes stay", x.count(3), 2);
        isAsInUse(x);
        due("the tape goes on behind them", x.feed('d'), 3);
        due("cUd", x.read(), 4);
        due("cUd is there", x.verdict(x.leads(0, 3)), 3);
        RunWatcher y = inUse();
        Due.feed(y, "YNa");
        due("a fault of kind 2", y.read(), -101);
        due("its kind", y.fault(), 2);
        isAsInUse(y);
        due("the same again", y.read(), -101);
        due("three bytes stay", y.cut(), 3);
    }

    /**
     * Promise 3: "FULL: more than 60 STATES". No rule has 51 to 63 of them (EveryRuleTest, told to
     * walk all rules of nine nodes): 50 is just inside the bound, 64 just beyond it.
     */
    private static void sixtyStates() {
        sound("F(a&NNNNNb)", 34);
        sound("G(aUYYYYYa)", 49);
        sound("(FGYYYYaUb)", 50);
        sound("(FGYYYYcUa)", 50);
        for (String text : new String[] {"FGYYYYYa", "WFGYYYYYa", "GWFYYYYYa", "FNGYYYYYa", "FG!YYYYYa", "FGY!YYYYa",
            "FGYY!YYYa", "FGYYY!YYa", "FGYYYY!Ya", "FGYYYYY!a", "!FGYYYYYa", "GFYYYYYb", "FGYYYYYYa", "GFYYYYYYd"}) {
            RunWatcher x = new RunWatcher();
            due("read() of '" + text + "'", Due.read(x, text), FULL);
            due("no rule behind '" + text + "'", x.count(0), 0);
            due("no fault in '" + text + "'", x.fault(), 0);
        }
    }

    /** Promise 3: "FULL .. (all stays)". */
    private static void readOfTooManyStatesChangesNothing() {
        RunWatcher x = inUse();
        Due.feed(x, "FGYYYYYa");
        due("too many states", x.read(), FULL);
        due("the bytes stay", x.count(3), 8);
        isAsInUse(x);
        due("again", x.read(), FULL);
        x.feed('.');
        due("the tape goes on behind them", x.read(), -108);
        due("they are cut", x.cut(), 9);
        Due.feed(x, "a");
        due("another rule", x.read(), 3);
        due("its keys", x.events(5), 0);
    }

    /** Promise 4: "The kind of the FAULT of the latest read(); 0: none." */
    private static void faultOfTheLatestRead() {
        RunWatcher x = new RunWatcher();
        due("ahead of any read", x.fault(), 0);
        due("a fault on the tape that is not read", fedAlone("YNa").fault(), 0);
        Due.read(x, "YNa");
        due("past", x.fault(), 2);
        due("told again", x.fault(), 2);
        due("cut", x.cut(), 3);
        due("it stays behind a cut", x.fault(), 2);
        Due.feed(x, "a b");
        due("it stays behind a feed", x.fault(), 2);
        x.read();
        due("syntax", x.fault(), 1);
        Due.read(x, "a");
        due("none", x.fault(), 0);
        x.read();
        due("an empty tape", x.fault(), 1);
        Due.read(x, "FGYYYYYa");
        due("too many states are no fault", x.fault(), 0);
        Due.read(x, "aSFb");
        due("past again", x.fault(), 2);
        due("a refused count", x.count(5), OUTSIDE);
        due("it stays behind what is refused", x.fault(), 2);
    }

    private static RunWatcher fedAlone(String text) {
        RunWatcher x = new RunWatcher();
        Due.feed(x, text);
        return x;
    }

    /** Promise 5: "THE TAPE is empty: how many bytes it had." */
    private static void cutTellsWhatItHad() {
        for (int bytes = 0; bytes <= 60; bytes++) {
            RunWatcher x = tapeOf(bytes);
            due("cut of " + bytes, x.cut(), bytes);
            due("cut again", x.cut(), 0);
            due("bytes", x.count(3), 0);
            due("eight bytes come", x.feed(-1L), 8);
        }
        RunWatcher x = inUse();
        Due.feed(x, "aUb");
        due("cut with a rule there", x.cut(), 3);
        isAsInUse(x);
        due("nothing is left to read", x.read(), -100);
    }
}
