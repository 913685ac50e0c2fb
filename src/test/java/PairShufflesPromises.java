/** For each promise of the document: ordinary calls, the edges that it names, and wrong arguments. */
public final class PairShufflesPromises {
    private static final int INVALID = -1000001;
    private static final int IMPOSSIBLE = -1000002;
    private static final int LIMIT = -1000003;
    private static final int MISSING = -1000004;
    private static final int[] BAD_LETTERS = {-1, 4, Integer.MIN_VALUE, Integer.MAX_VALUE};
    private static int wrong = 0;
    private static int promise = 0;

    private static void due(String what, int got, int want) {
        if (got != want) {
            wrong++;
            System.out.println("promise " + promise + ": " + what + " answered " + got + ", due is " + want);
        }
    }

    private static PairShuffles rowOf(String letters) {
        PairShuffles x = new PairShuffles();
        for (int i = 0; i < letters.length(); i++) {
            x.append(letters.charAt(i) - 'a');
        }
        return x;
    }

    private static void dueRow(String what, PairShuffles x, String letters) {
        due(what + ": length", x.count(0), letters.length());
        for (int i = 0; i < letters.length(); i++) {
            due(what + ": letter " + i, x.letterAt(i), letters.charAt(i) - 'a');
        }
    }

    private static PairShuffles type(PairShuffles x, String text) {
        x.clearText();
        for (int i = 0; i < text.length(); i++) {
            x.type(text.charAt(i));
        }
        return x;
    }

    private static void dueFault(PairShuffles x, String text, int position, int reason, int cause) {
        type(x, text);
        due("'" + text + "' fault(0)", x.fault(0), position);
        due("'" + text + "' fault(1)", x.fault(1), reason);
        due("'" + text + "' fault(2)", x.fault(2), cause);
    }

    private static void testNew() {
        PairShuffles x = new PairShuffles();
        for (int what = 0; what < 8; what++) {
            due("new: count(" + what + ")", x.count(what), 0);
        }
        for (int pair = 0; pair < 16; pair++) {
            due("new: codeOf of " + pair, x.codeOf(pair / 4, pair % 4), (pair / 4 + pair % 4) % 4);
        }
        due("INVALID_ARGUMENT", PairShuffles.INVALID_ARGUMENT, INVALID);
        due("NOT_POSSIBLE", PairShuffles.NOT_POSSIBLE, IMPOSSIBLE);
        due("LIMIT_REACHED", PairShuffles.LIMIT_REACHED, LIMIT);
        due("NOT_FOUND", PairShuffles.NOT_FOUND, MISSING);
    }

    private static void testAppend() {
        PairShuffles x = new PairShuffles();
        for (int i = 0; i < 10; i++) {
            due("append", x.append(i % 4), i + 1);
        }
        due("append to 10", x.append(0), LIMIT);
        due("append -1 to 10", x.append(-1), INVALID);
        dueRow("after it", x, "abcdabcdab");
        due("states", x.count(6), 4);
        x = new PairShuffles();
        for (int bad : BAD_LETTERS) {
            due("append(" + bad + ")", x.append(bad), INVALID);
        }
        due("an error is no change", x.count(6), 0);
    }

    private static void testClear() {
        PairShuffles x = rowOf("abc");
        x.keep();
        x.code(0, 0, 3);
        due("clear", x.clear(), 3);
        dueRow("after it", x, "");
        due("the book stays", x.count(5), 1);
        due("the table stays", x.codeOf(0, 0), 3);
        due("clear an empty row", x.clear(), 0);
        due("undo it", x.undo(), 3);
        due("undo it", x.undo(), 2);
        dueRow("after undo", x, "abc");
        x = new PairShuffles();
        due("clear nothing", x.clear(), 0);
        due("which is a change", x.count(6), 1);
    }

    private static void testCode() {
        PairShuffles x = new PairShuffles();
        due("code", x.code(3, 2, 0), 1);
        due("code again", x.code(3, 2, 3), 0);
        due("the same", x.code(3, 2, 3), 3);
        due("codeOf", x.codeOf(3, 2), 3);
        due("the other one", x.codeOf(2, 3), 1);
        due("the last one", x.code(3, 3, 1), 2);
        due("codeOf the last one", x.codeOf(3, 3), 1);
        due("undo", x.undo(), 3);
        due("undone", x.codeOf(3, 3), 2);
        for (int bad : BAD_LETTERS) {
            due("code first", x.code(bad, 0, 0), INVALID);
            due("code second", x.code(0, bad, 0), INVALID);
            due("code code", x.code(0, 0, bad), INVALID);
        }
        due("an error is no change", x.count(6), 3);
    }

    private static void testTurn() {
        PairShuffles x = rowOf("abbcd");
        due("turn", x.turn(), 3);
        dueRow("turned", x, "dcbba");
        due("undo", x.undo(), 3);
        dueRow("undone", x, "abbcd");
        due("turn nothing", new PairShuffles().turn(), IMPOSSIBLE);
        x = rowOf("a");
        due("turn one", x.turn(), 0);
        due("it is a change", x.count(6), 2);
        x = rowOf("aaaaabcdcb");
        due("turn ten", x.turn(), 1);
        dueRow("ten turned", x, "bcdcbaaaaa");
    }

    private static void testLetterAt() {
        PairShuffles x = rowOf("abcdabcddb");
        due("letterAt(0)", x.letterAt(0), 0);
        due("letterAt(8)", x.letterAt(8), 3);
        due("letterAt(9)", x.letterAt(9), 1);
        for (int place : new int[] {10, 11, 16, 32, Integer.MAX_VALUE}) {
            due("letterAt(" + place + ")", x.letterAt(place), MISSING);
        }
        due("letterAt(-1)", x.letterAt(-1), INVALID);
        due("letterAt(least)", x.letterAt(Integer.MIN_VALUE), INVALID);
        due("of nothing", new PairShuffles().letterAt(0), MISSING);
    }

    private static void testCodeOf() {
        PairShuffles x = new PairShuffles();
        due("codeOf(2, 3)", x.codeOf(2, 3), 1);
        for (int bad : BAD_LETTERS) {
            due("codeOf first", x.codeOf(bad, 0), INVALID);
            due("codeOf second", x.codeOf(0, bad), INVALID);
        }
        due("it is no change", x.count(6), 0);
    }

    private static void testPairAt() {
        PairShuffles x = rowOf("ddbddbaaa");
        int[] order = {0, 13, 15, 4, 7, 1, 2, 3, 5, 6, 8, 9, 10, 11, 12, 14};
        int[] often = {2, 2, 2, 1, 1};
        for (int place = 0; place < 16; place++) {
            due("pairAt(" + place + ", 0)", x.pairAt(place, 0), order[place]);
            due("pairAt(" + place + ", 1)", x.pairAt(place, 1), place < 5 ? often[place] : 0);
        }
        for (int bad : new int[] {-1, 16, Integer.MAX_VALUE, Integer.MIN_VALUE}) {
            due("pairAt(" + bad + ", 0)", x.pairAt(bad, 0), INVALID);
            due("pairAt(0, " + bad + ")", x.pairAt(0, bad), INVALID);
        }
        due("pairAt(0, 2)", x.pairAt(0, 2), INVALID);
        due("of nothing", new PairShuffles().pairAt(7, 0), 7);
        due("equal letters overlap", rowOf("cccc").pairAt(0, 1), 3);
    }

    private static void testBias() {
        PairShuffles x = rowOf("aabab");
        due("ab above", x.bias(0, 1, 0), 5);
        due("ab below", x.bias(0, 1, 1), 3);
        due("aa above", x.bias(0, 0, 0), 5);
        due("aa below", x.bias(0, 0, 1), 9);
        due("bb above", x.bias(1, 1, 0), 0);
        due("bb below", x.bias(1, 1, 1), 1);
        due("first letter missing", x.bias(2, 0, 0), MISSING);
        due("second letter missing", x.bias(0, 3, 1), MISSING);
        due("one letter", rowOf("c").bias(2, 2, 1), 1);
        due("dd above", rowOf("cdd").bias(3, 3, 0), 3);
        due("dd below", rowOf("cdd").bias(3, 3, 1), 4);
        due("of nothing", new PairShuffles().bias(0, 0, 0), MISSING);
        for (int bad : BAD_LETTERS) {
            due("bias x", x.bias(bad, 0, 0), INVALID);
            due("bias y", x.bias(0, bad, 0), INVALID);
            due("bias part", x.bias(0, 0, bad), INVALID);
        }
        due("bias part 2 of a missing letter", x.bias(3, 3, 2), INVALID);
    }

    private static void testShuffles() {
        due("kind 0 of ten", rowOf("abcdabcdab").shuffles(0), 25200);
        due("kind 0 of ten equal", rowOf("aaaaaaaaaa").shuffles(0), 1);
        PairShuffles x = rowOf("dbca");
        due("kind 0", x.shuffles(0), 24);
        due("kind 1 keeps the order of unlike letters", x.shuffles(1), 1);
        due("kind 3", x.shuffles(3), 4);
        x = rowOf("abca");
        due("kind 1 keeps the letters, not only the pairs", x.shuffles(1), 1);
        x = rowOf("abacadabac");
        due("kind 1", x.shuffles(1), 12);
        due("kind 2", x.shuffles(2), 12);
        for (int pair = 0; pair < 16; pair++) {
            x.code(pair / 4, pair % 4, 2);
        }
        due("kind 3 with one code", x.shuffles(3), x.shuffles(0));
        x = rowOf("abc");
        due("kind 3, a letter in no word", x.shuffles(3), 2);
        for (int kind = 0; kind < 4; kind++) {
            due("of nothing", new PairShuffles().shuffles(kind), 1);
            due("of one letter", rowOf("d").shuffles(kind), 1);
        }
        for (int bad : BAD_LETTERS) {
            due("shuffles(" + bad + ")", x.shuffles(bad), INVALID);
        }
        due("it is no change", x.count(6), 3);
    }

    private static void testPlaceOf() {
        due("first", rowOf("aabbcd").placeOf(0), 0);
        due("last", rowOf("dcbbaa").placeOf(0), 179);
        PairShuffles x = rowOf("acabab");
        due("kind 0", x.placeOf(0), 25);
        due("kind 1", x.placeOf(1), 1);
        due("kind 2", x.placeOf(2), 1);
        x = rowOf("baab");
        due("kind 3", x.placeOf(3), 2);
        x.code(0, 0, 1);
        x.code(1, 1, 1);
        due("kind 3 by another table", x.placeOf(3), 3);
        for (int kind = 0; kind < 4; kind++) {
            due("of nothing", new PairShuffles().placeOf(kind), 0);
        }
        for (int bad : BAD_LETTERS) {
            due("placeOf(" + bad + ")", x.placeOf(bad), INVALID);
        }
    }

    private static void testShuffleAt() {
        PairShuffles x = rowOf("cab");
        String[] all = {"abc", "acb", "bac", "bca", "cab", "cba"};
        for (int place = 0; place < 6; place++) {
            for (int letter = 0; letter < 3; letter++) {
                due("shuffleAt(0, " + place + ", " + letter + ")", x.shuffleAt(0, place, letter), all[place].charAt(letter) - 'a');
            }
        }
        dueRow("the row stays", x, "cab");
        due("too few shuffles", x.shuffleAt(0, 6, 0), MISSING);
        due("too few shuffles of kind 1", x.shuffleAt(1, 1, 0), MISSING);
        due("too few letters", x.shuffleAt(0, 0, 3), MISSING);
        due("greatest place", x.shuffleAt(0, Integer.MAX_VALUE, 0), MISSING);
        due("greatest letter", x.shuffleAt(0, 0, Integer.MAX_VALUE), MISSING);
        due("of nothing", new PairShuffles().shuffleAt(0, 0, 0), MISSING);
        due("kind -1", x.shuffleAt(-1, 0, 0), INVALID);
        due("kind 4", x.shuffleAt(4, 0, 0), INVALID);
        due("place -1", x.shuffleAt(0, -1, 9), INVALID);
        due("letter -1", x.shuffleAt(0, 9, -1), INVALID);
        due("it is no change", x.count(6), 3);
    }

    private static void testNext() {
        PairShuffles x = rowOf("abac");
        due("kind 1 has no other", x.next(1), IMPOSSIBLE);
        due("next(0)", x.next(0), 3);
        dueRow("kind 0", x, "abca");
        due("undo", x.undo(), 3);
        dueRow("undone", x, "abac");
        due("next(3)", x.next(3), 1);
        dueRow("kind 3", x, "abca");
        due("next(3) again", x.next(3), 2);
        dueRow("kind 3 again", x, "baac");
        x = rowOf("abacab");
        due("next(2)", x.next(2), 1);
        dueRow("kind 2", x, "acabab");
        x = rowOf("dcba");
        due("the last one", x.next(0), IMPOSSIBLE);
        due("an error is no change", x.count(6), 4);
        for (int kind = 0; kind < 4; kind++) {
            due("of nothing", new PairShuffles().next(kind), IMPOSSIBLE);
        }
        for (int bad : BAD_LETTERS) {
            due("next(" + bad + ")", x.next(bad), INVALID);
        }
    }

    private static void testBack() {
        PairShuffles x = rowOf("abca");
        due("back(0)", x.back(0), 2);
        dueRow("kind 0", x, "abac");
        due("undo", x.undo(), 3);
        dueRow("undone", x, "abca");
        x = rowOf("acabab");
        due("back(1)", x.back(1), 0);
        dueRow("kind 1", x, "abacab");
        due("the first one", x.back(2), IMPOSSIBLE);
        x = rowOf("baac");
        due("back(3)", x.back(3), 1);
        dueRow("kind 3", x, "abca");
        x = rowOf("abcd");
        due("the first one of all", x.back(0), IMPOSSIBLE);
        due("an error is no change", x.count(6), 4);
        due("of nothing", new PairShuffles().back(1), IMPOSSIBLE);
        for (int bad : BAD_LETTERS) {
            due("back(" + bad + ")", x.back(bad), INVALID);
        }
    }

    private static void testAt() {
        PairShuffles x = rowOf("abcdabcdab");
        due("the last one", x.at(0, 25199), 7);
        dueRow("the last one", x, "ddccbbbaaa");
        due("one more", x.at(0, 25200), IMPOSSIBLE);
        due("the same", x.at(0, 25199), 0);
        due("which is a change", x.undo(), 3);
        due("the other change", x.undo(), 2);
        dueRow("undone", x, "abcdabcdab");
        x = rowOf("abacab");
        due("kind 1", x.at(1, 1), 2);
        dueRow("kind 1", x, "acabab");
        due("of nothing", new PairShuffles().at(3, 0), 0);
        due("of nothing, one more", new PairShuffles().at(3, 1), IMPOSSIBLE);
        due("greatest place", x.at(0, Integer.MAX_VALUE), IMPOSSIBLE);
        due("place -1", x.at(0, -1), INVALID);
        for (int bad : BAD_LETTERS) {
            due("at(" + bad + ", 0)", x.at(bad, 0), INVALID);
        }
        due("an error is no change", x.count(6), 4);
    }

    private static void testMeasure() {
        PairShuffles x = rowOf("aabaaac");
        due("aa", x.measure(0, 0, 0), 3);
        due("ab", x.measure(0, 0, 1), 1);
        due("ba", x.measure(0, 1, 0), 1);
        due("dd", x.measure(0, 3, 3), 0);
        due("runs", x.measure(1, 3, 2), 4);
        due("same places", x.measure(2, 1, 1), 7);
        due("code 0", x.measure(3, 0, 3), 2);
        due("code 1", x.measure(3, 1, 0), 1);
        due("code 3", x.measure(3, 3, 0), 0);
        x.code(0, 0, 1);
        due("code 1 by another table", x.measure(3, 1, 0), 3);
        for (int measure = 0; measure < 4; measure++) {
            due("of nothing", new PairShuffles().measure(measure, 0, 0), 0);
            for (int bad : BAD_LETTERS) {
                due("measure x", x.measure(measure, bad, 0), INVALID);
                due("measure y", x.measure(measure, 0, bad), INVALID);
                due("measure measure", x.measure(bad, 0, 0), INVALID);
            }
        }
    }

    private static void testSurprise() {
        // Its shuffles: aabb, abab, abba, baab, baba, bbaa.
        PairShuffles x = rowOf("abba");
        int[][] answers = {{5, 0, 2, 6, 1}, {4, 2, 4, 18, 1}, {1, 0, 4, 12, 2}, {6, 0, 1, 2, 0}};
        for (int measure = 0; measure < 4; measure++) {
            for (int what = 0; what < 5; what++) {
                due("surprise(0, " + measure + ", 0, 1, " + what + ")", x.surprise(0, measure, 0, 1, what),
                        answers[measure][what]);
            }
        }
        due("code 2 of its words", x.surprise(0, 3, 2, 0, 3), 2);
        due("pairs of kind 1", rowOf("abacab").surprise(1, 2, 0, 0, 3), 10);
        due("kind 3", x.surprise(3, 0, 1, 0, 4), 3);
        for (int kind = 0; kind < 4; kind++) {
            for (int what = 0; what < 5; what++) {
                due("of nothing", new PairShuffles().surprise(kind, what % 4, 0, 0, what), what == 0 ? 1 : 0);
            }
        }
        due("pair of the last letters", rowOf("ddc").surprise(0, 0, 3, 3, 3), 2);
        due("sum of ten", rowOf("abcdabcdab").surprise(0, 2, 0, 0, 3), 65520);
        for (int bad : BAD_LETTERS) {
            due("surprise kind", x.surprise(bad, 1, 0, 0, 0), INVALID);
            due("surprise measure", x.surprise(0, bad, 0, 0, 0), INVALID);
            due("surprise x", x.surprise(0, 1, bad, 0, 0), INVALID);
            due("surprise y", x.surprise(0, 1, 0, bad, 0), INVALID);
        }
        due("surprise what", x.surprise(0, 1, 0, 0, -1), INVALID);
        due("surprise what", x.surprise(0, 1, 0, 0, 5), INVALID);
        due("it is no change", x.count(6), 4);
    }

    private static void testCommon() {
        PairShuffles x = rowOf("abacab");
        int[][] answers = {{60, 2, 2, 8}, {2, 2, 2, 1}, {2, 2, 2, 1}, {8, 1, 1, 8}};
        for (int one = 0; one < 4; one++) {
            for (int other = 0; other < 4; other++) {
                due("common(" + one + ", " + other + ")", x.common(one, other), answers[one][other]);
            }
        }
        for (int pair = 0; pair < 16; pair++) {
            x.code(pair / 4, pair % 4, 0);
        }
        due("one code, kinds 3 and 1", x.common(3, 1), 2);
        due("one code, kinds 0 and 3", x.common(0, 3), 60);
        due("of nothing", new PairShuffles().common(1, 3), 1);
        for (int bad : BAD_LETTERS) {
            due("common one", x.common(bad, 0), INVALID);
            due("common other", x.common(0, bad), INVALID);
        }
    }

    private static void testKeep() {
        PairShuffles x = rowOf("ab");
        for (int i = 1; i <= 8; i++) {
            due("keep", x.keep(), i);
        }
        due("keep more", x.keep(), LIMIT);
        due("it changes nothing", x.count(6), 4);
        due("undo", x.undo(), 3);
        due("the book then", x.count(5), 7);
        x.keep();
        x.clear();
        due("nothing, and the book is full", x.keep(), IMPOSSIBLE);
        due("nothing", new PairShuffles().keep(), IMPOSSIBLE);
    }

    private static void testRecall() {
        PairShuffles x = rowOf("abc");
        x.keep();
        x.append(3);
        x.keep();
        due("recall(0)", x.recall(0), 3);
        dueRow("recall(0)", x, "abc");
        due("recall(1)", x.recall(1), 4);
        dueRow("recall(1)", x, "abcd");
        due("it stays", x.count(5), 2);
        due("undo", x.undo(), 3);
        dueRow("undone", x, "abc");
        due("recall(2)", x.recall(2), IMPOSSIBLE);
        due("recall(8)", x.recall(8), IMPOSSIBLE);
        due("recall(greatest)", x.recall(Integer.MAX_VALUE), IMPOSSIBLE);
        due("recall(-1)", x.recall(-1), INVALID);
        due("recall(least)", x.recall(Integer.MIN_VALUE), INVALID);
        due("an error is no change", x.count(6), 3);
    }

    private static void testKinship() {
        PairShuffles x = rowOf("abacab");
        x.keep();
        due("the row itself", x.kinship(0), 2);
        x.next(1);
        due("the same pairs", x.kinship(0), 2);
        type(x, "row baacab;").play();
        due("the same codes", x.kinship(0), 3);
        x.code(1, 0, 3);
        due("by the table as it is now", x.kinship(0), 0);
        x.append(0);
        due("one letter more", x.kinship(0), MISSING);
        type(x, "row abbbac;").play();
        due("other letters", x.kinship(0), MISSING);
        due("a row that is not there", x.kinship(1), MISSING);
        due("greatest place", x.kinship(Integer.MAX_VALUE), MISSING);
        x.clear();
        due("nothing is not in the book", x.kinship(1), MISSING);
        type(x, "row abc;keep;row bca;").play();
        due("a last letter is in no word", x.kinship(1), 0);
        type(x, "row bac;").play();
        due("the codes but not the pairs", x.code(1, 0, 1), 3);
        due("kind 3 of three letters", x.kinship(1), 3);
        x = rowOf("ab");
        x.keep();
        x.undo();
        due("an undone row of the book", x.kinship(0), MISSING);
        x.keep();
        due("place -1", x.kinship(-1), INVALID);
        type(x, "row abca;keep;row bcab;").play();
        due("the pairs alone don't make it", x.kinship(1), MISSING);
    }

    private static void testCount() {
        PairShuffles x = type(rowOf("aabbaac"), "row a");
        x.keep();
        int[] answers = {7, 3, 5, 4, 3, 1, 4, 5};
        for (int what = 0; what < 8; what++) {
            due("count(" + what + ")", x.count(what), answers[what]);
        }
        for (int bad : new int[] {-1, 8, Integer.MIN_VALUE, Integer.MAX_VALUE}) {
            due("count(" + bad + ")", x.count(bad), INVALID);
        }
        due("words of a letter", rowOf("a").count(4), 0);
        due("pairs of ten", rowOf("abcddcbaac").count(2), 9);
    }

    private static void testUndo() {
        PairShuffles x = new PairShuffles();
        due("nothing to undo", x.undo(), IMPOSSIBLE);
        x.append(0);
        x.code(0, 0, 2);
        x.keep();
        x.turn();
        due("states", x.count(6), 4);
        x.append(1);
        due("the oldest is dropped", x.count(6), 4);
        type(x, "turn;");
        due("undo append", x.undo(), 3);
        dueRow("undo append", x, "a");
        due("the text stays", x.count(7), 5);
        due("undo turn", x.undo(), 2);
        due("the book", x.count(5), 1);
        due("undo keep", x.undo(), 1);
        due("the book", x.count(5), 0);
        due("the table", x.codeOf(0, 0), 2);
        due("undo code", x.undo(), 0);
        due("the table", x.codeOf(0, 0), 0);
        dueRow("the row", x, "a");
        due("no more", x.undo(), IMPOSSIBLE);
        x = rowOf("ab");
        x.keep();
        x.undo();
        x.clear();
        x.append(3);
        x.keep();
        x.recall(0);
        dueRow("an undone row of the book is gone", x, "d");
    }

    private static void testType() {
        PairShuffles x = new PairShuffles();
        due("31", x.type(31), INVALID);
        due("127", x.type(127), INVALID);
        due("-1", x.type(-1), INVALID);
        due("32", x.type(32), 1);
        due("126", x.type(126), 2);
        for (int i = 3; i <= 60; i++) {
            due("type", x.type('a'), i);
        }
        due("one more", x.type('a'), LIMIT);
        due("a wrong one more", x.type(10), INVALID);
        due("length", x.count(7), 60);
        due("it is no change", x.count(6), 0);
    }

    private static void testClearText() {
        PairShuffles x = type(rowOf("a"), "row b;");
        due("clearText", x.clearText(), 6);
        due("length", x.count(7), 0);
        due("again", x.clearText(), 0);
        due("it is no change", x.count(6), 1);
        dueRow("the row", x, "a");
        due("no fault", x.fault(0), MISSING);
    }

    private static void testFaultOfForm() {
        PairShuffles x = rowOf("ab");
        dueFault(x, "", MISSING, MISSING, MISSING);
        dueFault(x, "turn;", MISSING, MISSING, MISSING);
        dueFault(x, ";", 0, 1, 0);
        dueFault(x, "tur", 0, 1, 0);
        dueFault(x, "turns;", 0, 1, 0);
        dueFault(x, "turn", 0, 1, 4);
        dueFault(x, "turn ;", 0, 1, 4);
        dueFault(x, "turn; turn;", 5, 1, 0);
        dueFault(x, "Turn;", 0, 1, 0);
        dueFault(x, "rowab;", 0, 1, 0);
        dueFault(x, "row;", 0, 1, 3);
        dueFault(x, "row ;", 0, 1, 4);
        dueFault(x, "row e;", 0, 1, 4);
        dueFault(x, "row  a;", 0, 1, 4);
        dueFault(x, "row abE;", 0, 1, 6);
        dueFault(x, "row abcdabcdab", 0, 1, 14);
        dueFault(x, "row abcdabcdab;", MISSING, MISSING, MISSING);
        dueFault(x, "row abcdabcdabc;", 0, 1, 14);
        dueFault(x, "keep", 0, 1, 4);
        dueFault(x, "keep1;", 0, 1, 4);
        dueFault(x, "next;", 0, 1, 4);
        dueFault(x, "next a;", 0, 1, 5);
        dueFault(x, "next 12;", 0, 1, 6);
        dueFault(x, "next 7", 0, 1, 6);
        dueFault(x, "place 0;", 0, 1, 7);
        dueFault(x, "place 0 ;", 0, 1, 8);
        dueFault(x, "place 0 -1;", 0, 1, 8);
        dueFault(x, "place 00 1;", 0, 1, 7);
        dueFault(x, "place 0 0000001;", 0, 1, 14);
        dueFault(x, "place 0 000001;", MISSING, MISSING, MISSING);
        dueFault(x, "place 0 1:", 0, 1, 9);
        dueFault(x, "place ", 0, 1, 6);
    }

    private static void testFaultOfState() {
        PairShuffles x = rowOf("ab");
        dueFault(x, "next 4;", 0, 2, MISSING);
        dueFault(x, "turn;place 9 1;", 5, 2, MISSING);
        dueFault(x, "next 3;next 3;", 7, 3, 1);
        dueFault(x, "place 0 2;", 0, 3, 1);
        dueFault(x, "place 1 999999;", 0, 3, 1);
        dueFault(x, "next 0;turn;next 0;next 0;", 19, 3, 1);
        dueRow("the row stays", x, "ab");
        dueFault(x, "keep;keep;keep;keep;keep;keep;keep;keep;keep;", 40, 3, 2);
        due("the book stays", x.count(5), 0);
        PairShuffles empty = new PairShuffles();
        dueFault(empty, "turn;", 0, 3, 3);
        dueFault(empty, "keep;", 0, 3, 3);
        dueFault(empty, "next 0;", 0, 3, 1);
        dueFault(empty, "place 0 1;", 0, 3, 1);
        dueFault(empty, "place 0 0;", MISSING, MISSING, MISSING);
        dueFault(empty, "row a;turn;keep;", MISSING, MISSING, MISSING);
        dueFault(empty, "place 2 0;turn;", 10, 3, 3);
        for (int i = 0; i < 8; i++) {
            x.keep();
        }
        x.clear();
        dueFault(x, "keep;", 0, 3, 2);
        for (int bad : new int[] {-1, 3, Integer.MIN_VALUE, Integer.MAX_VALUE}) {
            due("fault(" + bad + ")", x.fault(bad), INVALID);
        }
        due("wrong and no fault", empty.fault(3), INVALID);
    }

    private static void testPlay() {
        PairShuffles x = rowOf("a");
        due("nothing", x.play(), 0);
        due("which is a change", x.count(6), 2);
        type(x, "row abacab;keep;next 1;turn;place 0 00024;");
        due("play", x.play(), 5);
        dueRow("played", x, "acaabb");
        due("the book", x.count(5), 1);
        due("one change", x.count(6), 3);
        due("the text stays", x.count(7), 42);
        due("play again", x.play(), 5);
        due("the book", x.count(5), 2);
        due("undo", x.undo(), 3);
        due("undo", x.undo(), 2);
        dueRow("undone", x, "a");
        due("the book", x.count(5), 0);
        type(x, "row b;keep;next 1;");
        due("with a fault", x.play(), IMPOSSIBLE);
        dueRow("it does nothing", x, "a");
        due("the book", x.count(5), 0);
        due("no change", x.count(6), 2);
        type(x, "row aabb;next 3;");
        due("by the table as it is at first", x.play(), IMPOSSIBLE);
        x.code(0, 0, 1);
        x.code(1, 1, 1);
        due("by another table", x.play(), 2);
        dueRow("kind 3", x, "abab");
        due("the table stays", x.codeOf(0, 0), 1);
    }

    public static void main(String[] args) {
        promise = 1;
        testNew();
        promise = 2;
        testAppend();
        promise = 3;
        testClear();
        promise = 4;
        testCode();
        promise = 5;
        testTurn();
        promise = 6;
        testLetterAt();
        promise = 7;
        testCodeOf();
        promise = 8;
        testPairAt();
        promise = 9;
        testBias();
        promise = 10;
        testShuffles();
        promise = 11;
        testPlaceOf();
        promise = 12;
        testShuffleAt();
        promise = 13;
        testNext();
        promise = 14;
        testBack();
        promise = 15;
        testAt();
        promise = 16;
        testMeasure();
        promise = 17;
        testSurprise();
        promise = 18;
        testCommon();
        promise = 19;
        testKeep();
        promise = 20;
        testRecall();
        promise = 21;
        testKinship();
        promise = 22;
        testCount();
        promise = 23;
        testUndo();
        promise = 24;
        testType();
        promise = 25;
        testClearText();
        promise = 26;
        testFaultOfForm();
        testFaultOfState();
        promise = 27;
        testPlay();
        System.out.println(wrong == 0 ? "all promises hold" : wrong + " answers are not as due");
        if (wrong != 0) {
            System.exit(1);
        }
    }
}
