import java.io.IOException;
import java.nio.file.Files;
import java.nio.file.Path;
import java.util.ArrayList;
import java.util.List;
import java.util.function.Consumer;
import java.util.function.Supplier;

/**
 * Each sentence of the document that names a boundary case, in the document's order and in its own words, with calls
 * that would answer otherwise if it did not hold. No object is used for more than 512 calls.
 */
public final class PairShufflesEdges {
    private static final int INVALID = -1000001;
    private static final int IMPOSSIBLE = -1000002;
    private static final int LIMIT = -1000003;
    private static final int MISSING = -1000004;
    private static final int LEAST = Integer.MIN_VALUE;
    private static final int MOST = Integer.MAX_VALUE;
    private static final String TEN = "abcdabcdab";
    private static final List<String> QUOTED = new ArrayList<>();
    private static String sentence = "";
    private static int wrong = 0;

    // ---- what the tests rest on

    /** The calls from here on test this sentence. */
    private static void says(String words) {
        sentence = words;
        QUOTED.add(words);
    }

    private static void due(String call, int got, int want) {
        if (got != want) {
            wrong++;
            System.out.println("\"" + sentence + "\": " + call + " answered " + got + ", due is " + want);
        }
    }

    private static void due(String what, String got, String want) {
        if (!got.equals(want)) {
            wrong++;
            System.out.println("\"" + sentence + "\": " + what + " is " + got + ", due is " + want);
        }
    }

    private static PairShuffles empty() {
        return new PairShuffles();
    }

    private static PairShuffles rowOf(String letters) {
        PairShuffles x = new PairShuffles();
        for (int i = 0; i < letters.length(); i++) {
            x.append(letters.charAt(i) - 'a');
        }
        return x;
    }

    private static PairShuffles typed(PairShuffles x, String text) {
        x.clearText();
        for (int i = 0; i < text.length(); i++) {
            x.type(text.charAt(i));
        }
        return x;
    }

    private static PairShuffles kept(PairShuffles x, int times) {
        for (int i = 0; i < times; i++) {
            x.keep();
        }
        return x;
    }

    private static PairShuffles oneCode(PairShuffles x, int code) {
        for (int pair = 0; pair < 16; pair++) {
            x.code(pair / 4, pair % 4, code);
        }
        return x;
    }

    private static String row(PairShuffles x) {
        StringBuilder letters = new StringBuilder();
        for (int place = 0; place < 11; place++) {
            int letter = x.letterAt(place);
            if (letter != MISSING) {
                letters.append((char) ('a' + letter));
            }
        }
        return letters.toString();
    }

    private static String table(PairShuffles x) {
        StringBuilder codes = new StringBuilder();
        for (int pair = 0; pair < 16; pair++) {
            codes.append(x.codeOf(pair / 4, pair % 4));
        }
        return codes.toString();
    }

    private static String shuffle(PairShuffles x, int kind, int place) {
        StringBuilder letters = new StringBuilder();
        int length = x.count(0);
        for (int letter = 0; letter < length; letter++) {
            letters.append((char) ('a' + x.shuffleAt(kind, place, letter)));
        }
        return letters.toString();
    }

    /** All shuffles of a kind as the calls tell them. */
    private static String shuffles(PairShuffles x, int kind) {
        StringBuilder all = new StringBuilder();
        int number = x.shuffles(kind);
        for (int place = 0; place < number; place++) {
            all.append(place == 0 ? "" : " ").append(shuffle(x, kind, place));
        }
        return all.toString();
    }

    /** The answers of surprise for what 0 to 4. */
    private static String surprises(PairShuffles x, int kind, int measure, int a, int b) {
        StringBuilder all = new StringBuilder();
        for (int what = 0; what < 5; what++) {
            all.append(what == 0 ? "" : " ").append(x.surprise(kind, measure, a, b, what));
        }
        return all.toString();
    }

    private static String bias(PairShuffles x, int a, int b) {
        return x.bias(a, b, 0) + "/" + x.bias(a, b, 1);
    }

    private static String told(int answer) {
        return answer == MISSING ? "-" : Integer.toString(answer);
    }

    /** Position, reason and cause of the text's fault, "-" for NOT_FOUND. */
    private static String fault(PairShuffles x) {
        return told(x.fault(0)) + " " + told(x.fault(1)) + " " + told(x.fault(2));
    }

    private static void dueFault(PairShuffles x, String text, String want) {
        due("the fault of '" + text + "'", fault(typed(x, text)), want);
    }

    private static void dueFault(String letters, String text, String want) {
        dueFault(rowOf(letters), text, want);
    }

    private static String state(PairShuffles x) {
        return row(x) + " " + table(x) + " " + x.count(5) + " " + x.count(6) + " " + x.count(7) + " " + fault(x);
    }

    /** All that calls can tell after this call, of three objects that were made alike, as to tell it changes them. */
    private static String after(Supplier<PairShuffles> maker, Consumer<PairShuffles> call) {
        StringBuilder all = new StringBuilder();
        PairShuffles undone = maker.get();
        call.accept(undone);
        all.append(state(undone));
        while (undone.undo() >= 0) {
            all.append("\n").append(state(undone));
        }
        PairShuffles recalled = maker.get();
        call.accept(recalled);
        for (int place = 0; recalled.recall(place) >= 0; place++) {
            all.append("\n").append(row(recalled));
        }
        PairShuffles played = maker.get();
        call.accept(played);
        all.append("\n").append(played.play()).append(" ").append(state(played));
        return all.toString();
    }

    // ---- the calls and the ranges of their arguments

    private interface Call {
        int on(PairShuffles x, int[] arguments);
    }

    /** A call with the least and the greatest value of each of its arguments. */
    private record Ranged(String name, Call call, int[] least, int[] greatest) {
    }

    private static Ranged ranged(String name, Call call, int... greatest) {
        return new Ranged(name, call, new int[greatest.length], greatest);
    }

    private static final List<Ranged> RANGED = List.of(
            ranged("append", (x, a) -> x.append(a[0]), 3),
            ranged("code", (x, a) -> x.code(a[0], a[1], a[2]), 3, 3, 3),
            ranged("letterAt", (x, a) -> x.letterAt(a[0]), MOST),
            ranged("codeOf", (x, a) -> x.codeOf(a[0], a[1]), 3, 3),
            ranged("pairAt", (x, a) -> x.pairAt(a[0], a[1]), 15, 1),
            ranged("bias", (x, a) -> x.bias(a[0], a[1], a[2]), 3, 3, 1),
            ranged("shuffles", (x, a) -> x.shuffles(a[0]), 3),
            ranged("placeOf", (x, a) -> x.placeOf(a[0]), 3),
            ranged("shuffleAt", (x, a) -> x.shuffleAt(a[0], a[1], a[2]), 3, MOST, MOST),
            ranged("next", (x, a) -> x.next(a[0]), 3),
            ranged("back", (x, a) -> x.back(a[0]), 3),
            ranged("at", (x, a) -> x.at(a[0], a[1]), 3, MOST),
            ranged("measure", (x, a) -> x.measure(a[0], a[1], a[2]), 3, 3, 3),
            ranged("surprise", (x, a) -> x.surprise(a[0], a[1], a[2], a[3], a[4]), 3, 3, 3, 3, 4),
            ranged("common", (x, a) -> x.common(a[0], a[1]), 3, 3),
            ranged("recall", (x, a) -> x.recall(a[0]), MOST),
            ranged("kinship", (x, a) -> x.kinship(a[0]), MOST),
            ranged("count", (x, a) -> x.count(a[0]), 7),
            new Ranged("type", (x, a) -> x.type(a[0]), new int[] {32}, new int[] {126}),
            ranged("fault", (x, a) -> x.fault(a[0]), 2));

    /** States at the edges: new, with everything full, with an empty row and a full book, and with one letter. */
    private static final List<Supplier<PairShuffles>> STATES = List.of(
            PairShufflesEdges::empty,
            () -> typed(kept(rowOf("ddccbbbaaa"), 8), "turn;".repeat(11) + "next "),
            () -> {
                PairShuffles x = kept(rowOf("ab"), 8);
                x.clear();
                return typed(x, "row abab;next 0;turn;keep;");
            },
            () -> {
                PairShuffles x = kept(rowOf("d"), 1);
                x.code(3, 3, 0);
                return typed(x, "turn;next 9;");
            });

    private static Ranged callOf(String name) {
        for (Ranged one : RANGED) {
            if (one.name.equals(name)) {
                return one;
            }
        }
        throw new IllegalStateException("no call " + name);
    }

    private static String written(Ranged one, int[] arguments) {
        StringBuilder all = new StringBuilder(one.name).append("(");
        for (int i = 0; i < arguments.length; i++) {
            all.append(i == 0 ? "" : ", ").append(arguments[i]);
        }
        return all.append(")").toString();
    }

    /** Every choice of arguments where one is out of its range and the others are all at the same end of theirs. */
    private static List<int[]> outOfRange(Ranged one) {
        List<int[]> all = new ArrayList<>();
        for (int i = 0; i < one.greatest.length; i++) {
            for (int[] others : List.of(one.least, one.greatest)) {
                for (int bad : new int[] {one.least[i] - 1, one.greatest[i] + 1, LEAST, MOST}) {
                    if (bad < one.least[i] || bad > one.greatest[i]) {
                        int[] arguments = others.clone();
                        arguments[i] = bad;
                        all.add(arguments);
                    }
                }
            }
        }
        return all;
    }

    private static void dueInvalid(String name) {
        Ranged one = callOf(name);
        for (Supplier<PairShuffles> maker : STATES) {
            PairShuffles x = maker.get();
            for (int[] arguments : outOfRange(one)) {
                due(written(one, arguments), one.call.on(x, arguments), INVALID);
            }
        }
        for (int ends = 0; ends < 1 << one.greatest.length; ends++) {
            int[] arguments = one.least.clone();
            for (int i = 0; i < arguments.length; i++) {
                arguments[i] = (ends >> i & 1) == 0 ? one.least[i] : one.greatest[i];
            }
            int answer = one.call.on(rowOf("abab"), arguments);
            due(written(one, arguments) + " with INVALID_ARGUMENT", answer == INVALID ? 1 : 0, 0);
        }
    }

    // ---- what it is, and the row

    private static void testCalls() {
        says("An object is used for at most 512 calls after it has been made");
        PairShuffles x = rowOf(TEN);
        for (int call = 11; call <= 509; call++) {
            x.turn();
        }
        due("call 510, letterAt(0)", x.letterAt(0), 1);
        due("call 511, undo", x.undo(), 3);
        due("call 512, surprise", x.surprise(0, 2, 0, 0, 2), 10);
        x = empty();
        for (int call = 1; call <= 511; call++) {
            x.type('a');
        }
        due("call 512, count(7)", x.count(7), 60);
    }

    private static void testLetters() {
        says("The letters are a, b, c and d, told as 0 to 3.");
        for (int letter = 0; letter < 4; letter++) {
            PairShuffles x = empty();
            x.append(letter);
            due("letterAt", x.letterAt(0), letter);
            typed(x, "row " + "abcd".charAt(3 - letter) + ";").play();
            due("letterAt by the text", x.letterAt(0), 3 - letter);
        }
        says("The row has at most 10 letters, at places from 0 on.");
        PairShuffles x = rowOf("dcbadcbad");
        due("nine letters", row(x), "dcbadcbad");
        due("the tenth", x.append(2), 10);
        due("the eleventh", x.append(2), LIMIT);
        due("letterAt(0)", x.letterAt(0), 3);
        due("letterAt(9)", x.letterAt(9), 2);
        due("letterAt(10)", x.letterAt(10), MISSING);
        typed(x, "row ddddddddda;").play();
        due("ten by the text", row(x), "ddddddddda");
        due("one more to them", x.append(0), LIMIT);
        dueFault(x, "row dddddddddaa;", "0 1 14");
    }

    private static void testPairs() {
        says("A pair of letters x and y is there as often as y stands right behind x in the row.");
        PairShuffles x = rowOf("cccccccccc");
        due("nine of ten equal letters", x.measure(0, 2, 2), 9);
        due("the same by pairAt", x.pairAt(0, 1), 9);
        x = rowOf("ba");
        due("behind, not ahead", x.measure(0, 1, 0), 1);
        due("not around the end", x.measure(0, 0, 1), 0);
        x = rowOf("acb");
        due("right behind alone", x.measure(0, 0, 1), 0);
        due("one letter has no pair", rowOf("a").measure(0, 0, 0), 0);
        due("an empty row has no pair", empty().measure(0, 0, 0), 0);
    }

    private static void testWords() {
        says("a last letter that is left over is in no word");
        int[] words = {0, 0, 1, 1, 2, 2, 3, 3, 4, 4, 5};
        for (int length = 0; length <= 10; length++) {
            due("words of " + length, rowOf("aaaaaaaaaa".substring(0, length)).count(4), words[length]);
            due("words with code 0 of " + length, rowOf("aaaaaaaaaa".substring(0, length)).measure(3, 0, 0), words[length]);
        }
        // The pairs across two words and the letter left over would tell bac and cba apart, or bar them.
        due("the words alone bind", shuffles(rowOf("aba"), 3), "aba baa");
        due("the letter left over is free", shuffles(oneCode(rowOf("abc"), 1), 3), "abc acb bac bca cab cba");
        says("at first the code of the word of the letters x and y is the remainder of x + y when divided by 4");
        due("the table", table(empty()), "0123" + "1230" + "2301" + "3012");
    }

    // ---- shuffles

    private static void testKinds() {
        says("A shuffle of a row is a row with as many letters (perhaps the row itself)");
        for (int kind = 0; kind < 4; kind++) {
            for (String letters : new String[] {"a", "dd", "cccccccccc"}) {
                PairShuffles x = rowOf(letters);
                due("shuffles(" + kind + ") of " + letters, x.shuffles(kind), 1);
                due("it is the row itself", shuffle(x, kind, 0), letters);
            }
            PairShuffles x = rowOf("bcabacba");
            due("the row is among its shuffles", shuffle(x, kind, x.placeOf(kind)), "bcabacba");
        }
        says("kind 0: each letter as often");
        due("kind 0 of baa", shuffles(rowOf("baa"), 0), "aab aba baa");
        due("kind 0 of dad", shuffles(rowOf("dad"), 0), "add dad dda");
        says("kind 1: each pair as often, and each letter as often");
        due("the pairs bind", shuffles(rowOf("abacab"), 1), "abacab acabab");
        due("the pairs alone do not make it", shuffles(rowOf("abca"), 1), "abca");
        due("equal pairs are not told apart", rowOf("ababababab").shuffles(1), 1);
        due("two letters", shuffles(rowOf("ba"), 1), "ba");
        says("kind 2: the same as kind 1, and the first letter");
        due("kind 2", shuffles(rowOf("bacbab"), 2), "babacb bacbab");
        due("a round of letters starts at its own", shuffles(rowOf("cabc"), 2), "cabc");
        says("kind 3: each letter as often, and the code of each word (the word at the same places has the same code)");
        due("the code binds", shuffles(rowOf("abac"), 3), "abac abca baac baca");
        due("at the same places", shuffles(rowOf("aaab"), 3), "aaab aaba");
        due("the letters bind, too", shuffles(rowOf("acbb"), 3), "acbb bbac bbca cabb");
        PairShuffles other = rowOf("aabb");
        due("by the table at first", shuffles(other, 3), "aabb");
        other.code(0, 0, 1);
        other.code(1, 1, 1);
        due("by another table", shuffles(other, 3), "aabb abab abba baab baba bbaa");
        other.append(2);
        other.append(2);
        due("of another row", shuffles(other, 3), "aabbcc ababcc abbacc baabcc babacc bbaacc");
    }

    private static void testOrder() {
        says("The shuffles of a kind are in an order: like words in a dictionary; they have places from 0 on.");
        due("kind 0", shuffles(rowOf("bab"), 0), "abb bab bba");
        for (int kind = 0; kind < 4; kind++) {
            String row = "bacabb";
            int last = rowOf(row).shuffles(kind) - 1;
            for (int place = 1; place <= last; place++) {
                boolean up = shuffle(rowOf(row), kind, place - 1).compareTo(shuffle(rowOf(row), kind, place)) < 0;
                due("kind " + kind + ", place " + place + " is behind the one before", up ? 1 : 0, 1);
            }
            due("the first place", rowOf(row).shuffleAt(kind, 0, 0) >= 0 ? 1 : 0, 1);
            due("ahead of it", rowOf(row).shuffleAt(kind, -1, 0), INVALID);
            due("the last place", rowOf(row).shuffleAt(kind, last, 0) >= 0 ? 1 : 0, 1);
            due("behind it", rowOf(row).shuffleAt(kind, last + 1, 0), MISSING);
        }
    }

    // ---- measures

    private static void testMeasures() {
        says("measure 0: how often a pair of x and y is there");
        due("none", rowOf("ab").measure(0, 1, 0), 0);
        due("nine", rowOf("dddddddddd").measure(0, 3, 3), 9);
        says("a run is as many equal letters one behind another as possible; x and y do not matter");
        due("no letter", empty().measure(1, 0, 0), 0);
        due("one letter", rowOf("c").measure(1, 3, 0), 1);
        due("ten equal letters", rowOf("bbbbbbbbbb").measure(1, 0, 3), 1);
        due("ten unlike neighbors", rowOf("ababababab").measure(1, 2, 2), 10);
        due("a letter again", rowOf("aabbaa").measure(1, 1, 1), 3);
        due("surprise, x and y", rowOf("abba").surprise(0, 1, 3, 3, 3), rowOf("abba").surprise(0, 1, 0, 0, 3));
        says("measure 2: at how many places it has the same letter as the present row (x and y do not matter)");
        due("no letter", empty().measure(2, 3, 3), 0);
        due("all of ten", rowOf(TEN).measure(2, 3, 1), 10);
        due("of ab and ba", surprises(rowOf("ba"), 0, 2, 3, 2), "1 0 2 2 1");
        PairShuffles x = rowOf("ba");
        x.back(0);
        due("the present row is another one", surprises(x, 0, 2, 0, 0), "1 0 2 2 0");
        says("measure 3: how many of its words have the code x (y does not matter)");
        x = rowOf("abbadda");
        for (int y = 0; y < 4; y++) {
            due("code 0", x.measure(3, 0, y), 0);
            due("code 1", x.measure(3, 1, y), 2);
            due("code 2", x.measure(3, 2, y), 1);
            due("code 3", x.measure(3, 3, y), 0);
        }
        due("no word", rowOf("a").measure(3, 0, 0), 0);
        due("five words", oneCode(rowOf(TEN), 3).measure(3, 3, 0), 5);
    }

    // ---- texts

    private static void testTexts() {
        says("There is a text of at most 60 characters, initially empty");
        PairShuffles x = empty();
        due("the length at first", x.count(7), 0);
        due("play at first", x.play(), 0);
        typed(x, "row abcdabcdab;".repeat(4));
        due("60 characters", x.count(7), 60);
        due("they are four orders", x.play(), 4);
        due("one more", x.type(';'), LIMIT);
        due("twelve orders", typed(rowOf("a"), "turn;".repeat(12)).play(), 12);
        dueFault(rowOf("a"), "turn;".repeat(11) + "place", "55 1 5");
        dueFault(rowOf("a"), "turn;".repeat(11) + "next ", "55 1 5");
        dueFault(rowOf("a"), "turn;".repeat(10) + "keep;" + "plac ", "55 1 0");
        says("orders, each followed by \";\"");
        dueFault(x, "turn;", "- - -");
        dueFault(x, "turn", "0 1 4");
        dueFault(x, "turn;keep", "5 1 4");
        dueFault(x, "turn;;", "5 1 0");
        dueFault(x, ";", "0 1 0");
        dueFault(x, "turn;keep;", "- - -");
        dueFault(x, "turn; keep;", "5 1 0");
        dueFault(x, " turn;", "0 1 0");
    }

    private static void testForms() {
        PairShuffles x = rowOf(TEN);
        says("\"row\" and a blank and 1 to 10 letters a to d (this is the row)");
        dueFault(x, "row ;", "0 1 4");
        dueFault(x, "row abcdabcdabc;", "0 1 14");
        dueFault(x, "row e;", "0 1 4");
        dueFault(x, "row `;", "0 1 4");
        dueFault(x, "row A;", "0 1 4");
        dueFault(x, "row ae;", "0 1 5");
        dueFault(x, "row a b;", "0 1 5");
        dueFault(x, "row  a;", "0 1 4");
        due("one letter", typed(x, "row d;").play(), 1);
        due("it is the row", row(x), "d");
        due("ten letters", typed(x, "row dcbadcbada;").play(), 1);
        due("they are the row", row(x), "dcbadcbada");
        due("two rows", typed(x, "row abc;row cb;").play(), 2);
        due("the latter is the row", row(x), "cb");
        says("\"turn\" (the row is turned around)");
        due("one order", typed(x, "turn;").play(), 1);
        due("turned", row(x), "bc");
        says("\"next\" and a blank and a kind (the row becomes the next shuffle of this kind)");
        due("kind 0", typed(x, "next 0;").play(), 1);
        due("the next one", row(x), "cb");
        due("the last one of all", typed(x, "next 0;").play(), IMPOSSIBLE);
        due("kind 2", typed(x, "row abacab;next 2;").play(), 2);
        due("the next one", row(x), "acabab");
        says("\"place\", a blank, a kind, a blank, and a number (the row becomes the shuffle at this place)");
        due("the first place", typed(x, "row cba;place 0 0;").play(), 2);
        due("it is the first", row(x), "abc");
        due("the last place", typed(x, "row abcdabcdab;place 0 25199;").play(), 2);
        due("it is the last", row(x), "ddccbbbaaa");
        due("behind the last place", typed(x, "place 0 25200;").play(), IMPOSSIBLE);
        says("or \"keep\" (the row is put into the book)");
        due("eight times", typed(rowOf("a"), "keep;".repeat(8)).play(), 8);
        due("nine times", typed(rowOf("a"), "keep;".repeat(9)).play(), IMPOSSIBLE);
        due("none", typed(empty(), "keep;").play(), IMPOSSIBLE);
    }

    private static void testKindsAndNumbers() {
        says("A kind is one digit, a number has 1 to 6 digits, 0 ahead allowed.");
        dueFault("ab", "next ;", "0 1 5");
        dueFault("ab", "next 00;", "0 1 6");
        dueFault("ab", "next /;", "0 1 5");
        dueFault("ab", "next :;", "0 1 5");
        dueFault("ab", "next 0;", "- - -");
        dueFault("ab", "next 9;", "0 2 -");
        dueFault("ab", "next 10;", "0 1 6");
        dueFault("ab", "place  1;", "0 1 6");
        dueFault("ab", "place 00 1;", "0 1 7");
        dueFault("ab", "place 0 ;", "0 1 8");
        dueFault("ab", "place 0 /;", "0 1 8");
        dueFault("ab", "place 0 :;", "0 1 8");
        dueFault("ab", "place 0 1:;", "0 1 9");
        dueFault("ab", "place 0 -0;", "0 1 8");
        dueFault("ab", "place 0 1;", "- - -");
        dueFault("ab", "place 0 000001;", "- - -");
        dueFault("ab", "place 0 000002;", "0 3 1");
        dueFault("ab", "place 0 999999;", "0 3 1");
        dueFault("ab", "place 0 0000001;", "0 1 14");
        dueFault("ab", "place 0 1000000;", "0 1 14");
        PairShuffles x = typed(rowOf("ab"), "place 0 000001;");
        due("0 ahead", x.play(), 1);
        due("the shuffle there", row(x), "ba");
        x = typed(rowOf(TEN), "place 0 012345;");
        due("all digits of six", x.play(), 1);
        due("the place", x.placeOf(0), 12345);
    }

    // ---- faults

    private static void testPositionAndReason() {
        says("The fault of the text is the position, from 0, of the first character of the first order that is not possible");
        dueFault(rowOf("ab"), "x;", "0 1 0");
        dueFault(rowOf("ab"), "turn;x;", "5 1 0");
        dueFault(rowOf("ab"), "next 5;x;", "0 2 -");
        dueFault(rowOf("ba"), "turn;turn;next 0;x;", "10 3 1");
        dueFault(rowOf("a"), "turn;".repeat(11) + "turn?", "55 1 4");
        says("its reason is 1 if it is not of this form, its \";\" included, 2 if a kind is above 3, and 3 if it is not possible otherwise");
        dueFault(rowOf("ab"), "next 4", "0 1 6");
        dueFault(rowOf("ab"), "next 9x;", "0 1 6");
        dueFault(rowOf("ab"), "place 9 1;", "0 2 -");
        dueFault(rowOf("ab"), "place 9 ;", "0 1 8");
        for (int kind = 0; kind < 10; kind++) {
            String want = kind > 3 ? "0 2 -" : kind == 0 || kind == 3 ? "- - -" : "0 3 1";
            dueFault(rowOf("ab"), "next " + kind + ";", want);
            dueFault(rowOf("ab"), "place " + kind + " 0;", kind > 3 ? "0 2 -" : "- - -");
            dueFault(empty(), "next " + kind + ";", kind > 3 ? "0 2 -" : "0 3 1");
        }
        says("when those ahead of it are done");
        dueFault(rowOf("a"), "next 0;", "0 3 1");
        dueFault(rowOf("a"), "row ab;next 0;", "- - -");
        dueFault(rowOf("ab"), "next 0;next 0;", "7 3 1");
        dueFault(empty(), "turn;", "0 3 3");
        dueFault(empty(), "row a;turn;", "- - -");
        dueFault(kept(rowOf("a"), 7), "keep;", "- - -");
        dueFault(kept(rowOf("a"), 7), "keep;keep;", "5 3 2");
        PairShuffles x = typed(kept(rowOf("ba"), 7), "keep;turn;next 0;turn;keep;");
        due("the fault", fault(x), "22 3 2");
        due("asking does nothing", row(x) + x.count(5) + x.count(6), "ba74");
    }

    private static void testWordCause() {
        says("The cause of a fault with the reason 1 is 0 if its letters a to z, as many as follow one another from its "
                + "beginning on, are none of these words (also at the end of the text)");
        for (String word : new String[] {"row", "turn", "next", "place", "keep"}) {
            for (int length = 1; length < word.length(); length++) {
                dueFault("abacab", word.substring(0, length), "0 1 0");
                dueFault("abacab", "turn;" + word.substring(0, length), "5 1 0");
                dueFault("abacab", word.substring(0, length) + ";", "0 1 0");
            }
            for (int at = 0; at < word.length(); at++) {
                String other = word.substring(0, at) + "x".repeat(word.charAt(at) == 'x' ? 2 : 1) + word.substring(at + 1);
                dueFault("abacab", other + " 1 1;", "0 1 0");
                dueFault("abacab", other + ";", "0 1 0");
            }
            dueFault("abacab", word + "a", "0 1 0");
            dueFault("abacab", word + "z 1 1;", "0 1 0");
            dueFault("abacab", word + word + ";", "0 1 0");
            dueFault("abacab", word.toUpperCase() + ";", "0 1 0");
            dueFault("abacab", " " + word + ";", "0 1 0");
            dueFault("abacab", word + "`", "0 1 " + word.length());
            dueFault("abacab", word + "{", "0 1 " + word.length());
            dueFault("abacab", word + "A", "0 1 " + word.length());
            dueFault("abacab", word, "0 1 " + word.length());
        }
        dueFault("abacab", "rowabc;", "0 1 0");
        dueFault("abacab", "~", "0 1 0");
    }

    private static void testBreakCause() {
        String[] orders = {"row abcdabcdab;", "turn;", "next 1;", "place 0 000012;", "keep;"};
        int[] words = {3, 4, 4, 5, 4};
        says("otherwise at which character of the order it breaks off");
        for (int i = 0; i < orders.length; i++) {
            for (int at = words[i]; at < orders[i].length(); at++) {
                String broken = orders[i].substring(0, at) + "?" + orders[i].substring(at + 1);
                dueFault("abacab", broken, "0 1 " + at);
                dueFault("abacab", "keep;" + broken, "5 1 " + at);
            }
        }
        says("of an order that the text ends too early it is its length");
        for (int i = 0; i < orders.length; i++) {
            for (int length = words[i]; length < orders[i].length(); length++) {
                String early = orders[i].substring(0, length);
                dueFault("abacab", early, "0 1 " + length);
                dueFault("abacab", "keep;" + early, "5 1 " + length);
            }
            dueFault("abacab", orders[i], "- - -");
        }
    }

    private static void testStateCause() {
        says("With the reason 3 it is 1 if there is no such shuffle, 2 if the book is full, 3 if the row is empty (the lowest of these that applies)");
        for (int kind = 0; kind < 4; kind++) {
            dueFault(rowOf("d"), "next " + kind + ";", "0 3 1");
            dueFault(rowOf("d"), "place " + kind + " 1;", "0 3 1");
            dueFault(rowOf("d"), "place " + kind + " 0;", "- - -");
            dueFault(empty(), "next " + kind + ";", "0 3 1");
            dueFault(empty(), "place " + kind + " 1;", "0 3 1");
            dueFault(empty(), "place " + kind + " 0;", "- - -");
        }
        dueFault(kept(rowOf("d"), 8), "next 0;", "0 3 1");
        dueFault(kept(rowOf("d"), 8), "keep;", "0 3 2");
        dueFault(empty(), "keep;", "0 3 3");
        dueFault(empty(), "turn;", "0 3 3");
        PairShuffles x = kept(rowOf("d"), 8);
        x.clear();
        dueFault(x, "keep;", "0 3 2");
        dueFault(x, "next 0;", "0 3 1");
    }

    // ---- changes and errors

    private static void testWhatIsAChange() {
        says("The changes are the calls of append, clear, code, next, back, at, turn, keep, recall and play that return no error.");
        PairShuffles x = typed(empty(), "turn;");
        int[] none = {x.append(4), x.code(0, 0, 4), x.next(0), x.next(4), x.back(0), x.at(0, 1), x.at(0, -1), x.turn(),
            x.keep(), x.recall(0), x.recall(-1), x.play(), x.undo()};
        due("after refused calls, " + none.length, x.count(6), 0);
        x.append(0);
        due("append", x.count(6), 1);
        x.code(1, 1, 2);
        due("code of the same", x.count(6), 2);
        x.turn();
        due("turn of one letter", x.count(6), 3);
        x.at(0, 0);
        due("at the same place", x.count(6), 4);
        x = rowOf("ab");
        x.undo();
        x.undo();
        x.clear();
        due("clear of an empty row", x.count(6), 1);
        x.play();
        due("play of no order", x.count(6), 2);
        typed(x, "row ab;").play();
        due("play", x.count(6), 3);
        x.next(0);
        due("next", x.count(6), 4);
        x.undo();
        x.undo();
        x.undo();
        x.play();
        x.keep();
        due("keep", x.count(6), 3);
        x.recall(0);
        due("recall of the same", x.count(6), 4);
        x.undo();
        x.undo();
        x.turn();
        x.back(0);
        due("back", x.count(6), 4);
    }

    private static void testWhatIsNoChange() {
        says("The changes are the calls of append, clear, code, next, back, at, turn, keep, recall and play");
        Supplier<PairShuffles> maker = STATES.get(1);
        String before = after(maker, x -> { });
        for (String name : new String[] {"letterAt", "codeOf", "pairAt", "bias", "shuffles", "placeOf", "shuffleAt",
            "measure", "surprise", "common", "kinship", "count", "fault"}) {
            Ranged one = callOf(name);
            due(written(one, one.least) + ": the state", after(maker, x -> one.call.on(x, one.least)), before);
        }
        PairShuffles x = rowOf("a");
        x.type('b');
        x.clearText();
        due("type and clearText", x.count(6), 1);
    }

    private static void testHistory() {
        says("A history of at most 4 states is kept: each change records everything before it but the text, and if there are "
                + "5 states then, the oldest one is dropped.");
        String all = "abcdabcdab";
        for (int changes = 0; changes <= 10; changes++) {
            PairShuffles x = rowOf(all.substring(0, changes));
            int states = Math.min(changes, 4);
            due("states after " + changes, x.count(6), states);
            for (int back = 1; back <= states; back++) {
                due("undo " + back + " of " + changes, x.undo(), states - back);
                due("the row then", row(x), all.substring(0, changes - back));
            }
            due("undo of no state", x.undo(), IMPOSSIBLE);
            due("the row then", row(x), all.substring(0, changes - states));
        }
        PairShuffles x = rowOf("abcdab");
        x.undo();
        x.undo();
        x.append(3);
        due("states after undo and change", x.count(6), 3);
        due("the row", row(x), "abcdd");
        x.undo();
        x.undo();
        x.undo();
        due("the oldest one", row(x), "ab");
        due("no older one", x.undo(), IMPOSSIBLE);
        x = typed(rowOf("ab"), "row c;keep;");
        x.keep();
        x.code(0, 1, 0);
        x.play();
        x.clearText();
        due("what was", row(x) + x.count(5) + x.codeOf(0, 1), "c20");
        due("undo play", x.undo(), 3);
        due("what was", row(x) + x.count(5) + x.codeOf(0, 1), "ab10");
        due("undo code", x.undo(), 2);
        due("what was", row(x) + x.count(5) + x.codeOf(0, 1), "ab11");
        due("undo keep", x.undo(), 1);
        due("what was", row(x) + x.count(5) + x.codeOf(0, 1), "ab01");
        due("the text is not restored", x.count(7), 0);
    }

    private static void testErrorOrder() {
        says("If several errors apply to a call, INVALID_ARGUMENT is returned rather than NOT_POSSIBLE, NOT_POSSIBLE rather "
                + "than LIMIT_REACHED, and LIMIT_REACHED rather than NOT_FOUND.");
        PairShuffles x = STATES.get(1).get();
        due("append of a wrong letter to ten", x.append(4), INVALID);
        due("type of a wrong character to 60", x.type(127), INVALID);
        due("recall(-1)", x.recall(-1), INVALID);
        due("bias of a missing letter and a wrong part", rowOf("a").bias(3, 3, 2), INVALID);
        due("bias of a missing letter and a wrong one", rowOf("a").bias(3, 4, 0), INVALID);
        due("shuffleAt of no such place and a wrong letter", x.shuffleAt(0, MOST, -1), INVALID);
        due("shuffleAt of no such letter and a wrong place", x.shuffleAt(0, -1, MOST), INVALID);
        due("shuffleAt of no such place and a wrong kind", x.shuffleAt(4, MOST, MOST), INVALID);
        due("next of a wrong kind of the last one", x.next(4), INVALID);
        due("back of a wrong kind of an empty row", empty().back(4), INVALID);
        due("at of a wrong kind and no such place", x.at(4, MOST), INVALID);
        due("kinship(-1) of an empty book", empty().kinship(-1), INVALID);
        due("fault(3) of no fault", empty().fault(3), INVALID);
        due("keep of an empty row into a full book", STATES.get(2).get().keep(), IMPOSSIBLE);
    }

    private static void testRefusedCalls() {
        says("A call that returns an error changes nothing.");
        for (Supplier<PairShuffles> maker : STATES) {
            String before = after(maker, x -> { });
            List<Ranged> all = new ArrayList<>(RANGED);
            all.add(ranged("turn", (x, a) -> x.turn()));
            all.add(ranged("keep", (x, a) -> x.keep()));
            all.add(ranged("play", (x, a) -> x.play()));
            for (Ranged one : all) {
                List<int[]> tries = outOfRange(one);
                tries.add(one.least);
                tries.add(one.greatest);
                for (int[] arguments : tries) {
                    if (one.call.on(maker.get(), arguments) < 0) {
                        due(written(one, arguments) + ": the state", after(maker, x -> one.call.on(x, arguments)), before);
                    }
                }
            }
        }
        String before = after(PairShufflesEdges::empty, x -> { });
        due("undo of no state: the state", after(PairShufflesEdges::empty, PairShuffles::undo), before);
    }

    private static void testConstants() {
        says("`INVALID_ARGUMENT = -1000001`: An argument is out of its range.");
        due("INVALID_ARGUMENT", PairShuffles.INVALID_ARGUMENT, INVALID);
        says("`NOT_POSSIBLE = -1000002`: The call is not possible in the present state.");
        due("NOT_POSSIBLE", PairShuffles.NOT_POSSIBLE, IMPOSSIBLE);
        says("`LIMIT_REACHED = -1000003`: A fixed limit has been reached.");
        due("LIMIT_REACHED", PairShuffles.LIMIT_REACHED, LIMIT);
        says("`NOT_FOUND = -1000004`: There is no such value.");
        due("NOT_FOUND", PairShuffles.NOT_FOUND, MISSING);
    }

    // ---- promises 1 to 9

    private static void testPromises1To4() {
        says("Creates an empty row, with the table as it is at first, and an empty book.");
        due("a new object", state(empty()), " 0123123023013012 0 0 0 - - -");
        due("letterAt(0)", empty().letterAt(0), MISSING);
        due("recall(0)", empty().recall(0), IMPOSSIBLE);
        PairShuffles used = oneCode(kept(rowOf("abc"), 2), 3);
        due("the used one", used.count(5), 2);
        due("a new object beside it", state(empty()), " 0123123023013012 0 0 0 - - -");

        says("Returns how many letters it has then; INVALID_ARGUMENT if letter is out of range; LIMIT_REACHED if it has 10.");
        dueInvalid("append");
        PairShuffles x = empty();
        for (int length = 1; length <= 10; length++) {
            due("append", x.append(length % 4), length);
        }
        due("append to ten", x.append(3), LIMIT);
        x.undo();
        due("append to nine", x.append(3), 10);

        says("Returns how many letters it had.");
        due("clear of none", empty().clear(), 0);
        due("clear of one", rowOf("a").clear(), 1);
        due("clear of ten", x.clear(), 10);
        due("the row then", row(x), "");
        due("clear again", x.clear(), 0);
        due("append then", x.append(2), 1);

        says("Returns what it was; INVALID_ARGUMENT if an argument is out of range.");
        dueInvalid("code");
        x = empty();
        for (int pair = 0; pair < 16; pair++) {
            due("code of " + pair, x.code(pair / 4, pair % 4, 3 - pair % 4), (pair / 4 + pair % 4) % 4);
        }
        due("the table", table(x), "3210321032103210");
        for (int pair = 0; pair < 16; pair++) {
            due("code of " + pair + " again", x.code(pair / 4, pair % 4, 0), 3 - pair % 4);
        }
    }

    private static void testPromises5To7() {
        says("Returns its first letter then; NOT_POSSIBLE if it is empty.");
        due("turn of none", empty().turn(), IMPOSSIBLE);
        due("turn of one", rowOf("d").turn(), 3);
        PairShuffles x = rowOf("aaaaaaaaac");
        due("turn of ten", x.turn(), 2);
        due("the row", row(x), "caaaaaaaaa");
        due("turn back", x.turn(), 0);
        due("the row", row(x), "aaaaaaaaac");
        x.clear();
        due("turn of an emptied row", x.turn(), IMPOSSIBLE);

        says("Returns the letter; INVALID_ARGUMENT if place is negative; NOT_FOUND if there are not so many.");
        dueInvalid("letterAt");
        for (int length = 0; length <= 10; length++) {
            x = rowOf("dcbadcbadc".substring(0, length));
            for (int place = 0; place < length; place++) {
                due("letterAt(" + place + ") of " + length, x.letterAt(place), 3 - place % 4);
            }
            due("letterAt(" + length + ") of " + length, x.letterAt(length), MISSING);
            due("letterAt(greatest) of " + length, x.letterAt(MOST), MISSING);
        }
        // A letter that was there must not be told when the row is shorter.
        x.undo();
        due("letterAt(9) of nine", x.letterAt(9), MISSING);
        x.clear();
        due("letterAt(0) of none", x.letterAt(0), MISSING);

        says("Returns the code; INVALID_ARGUMENT if an argument is out of range.");
        dueInvalid("codeOf");
        x = empty();
        x.code(0, 3, 0);
        due("the first letter is the first argument", table(x), "0120" + "1230" + "2301" + "3012");
    }

    private static void testPromises8And9() {
        says("Returns a pair by its place in the order of all 16 pairs: those that are there more often first, of several by their letters.");
        dueInvalid("pairAt");
        for (int place = 0; place < 16; place++) {
            due("of no pair", empty().pairAt(place, 0), place);
            due("of no pair", rowOf("d").pairAt(place, 0), place);
            due("how often", empty().pairAt(place, 1), 0);
        }
        PairShuffles x = rowOf("dddcccba");
        String[] order = {"10/2", "15/2", "4/1", "9/1", "14/1", "0/0", "1/0", "2/0", "3/0", "5/0", "6/0", "7/0", "8/0",
            "11/0", "12/0", "13/0"};
        for (int place = 0; place < 16; place++) {
            due("pairAt(" + place + ")", x.pairAt(place, 0) + "/" + x.pairAt(place, 1), order[place]);
        }
        x = rowOf("dddddddddd");
        due("nine of one first", x.pairAt(0, 0) + "/" + x.pairAt(0, 1), "15/9");
        due("the others behind", x.pairAt(15, 0) + "/" + x.pairAt(15, 1), "14/0");
        x = rowOf("aaaaaaaaaa");
        due("nine of the first pair", x.pairAt(0, 0) + "/" + x.pairAt(0, 1), "0/9");
        due("the others behind", x.pairAt(15, 0) + "/" + x.pairAt(15, 1), "15/0");

        says("in lowest terms (0 over 1 if the pair is not there)");
        dueInvalid("bias");
        due("a whole number", bias(rowOf("ab"), 0, 1), "2/1");
        due("not there", bias(rowOf("ab"), 1, 0), "0/1");
        due("one letter, not there", bias(rowOf("c"), 2, 2), "0/1");
        due("ten equal letters", bias(rowOf("aaaaaaaaaa"), 0, 0), "9/10");
        due("10 over 6", bias(rowOf("aabab"), 0, 1), "5/3");
        due("as often as due", bias(rowOf("aabb"), 0, 1), "1/1");
        due("the greatest one", bias(rowOf("abcccccccc"), 0, 1), "10/1");
        due("already lowest", bias(rowOf("aab"), 0, 0), "3/4");
        due("5 and 5 of ten, five pairs", bias(rowOf("ababababab"), 0, 1), "2/1");

        says("Returns the number; INVALID_ARGUMENT if an argument is out of range; NOT_FOUND if one of both letters is not in the row.");
        for (int part = 0; part < 2; part++) {
            due("the first letter missing", rowOf("bb").bias(0, 1, part), MISSING);
            due("the second letter missing", rowOf("bb").bias(1, 0, part), MISSING);
            due("both missing", rowOf("bb").bias(3, 2, part), MISSING);
            due("of an empty row", empty().bias(0, 0, part), MISSING);
        }
    }

    // ---- promises 10 to 18

    private static void testPromises10To12() {
        says("Returns how many there are (1 for an empty row: itself); INVALID_ARGUMENT if kind is out of range.");
        dueInvalid("shuffles");
        PairShuffles x = kept(rowOf("abc"), 1);
        x.clear();
        for (int kind = 0; kind < 4; kind++) {
            due("shuffles(" + kind + ") of none", empty().shuffles(kind), 1);
            due("shuffles(" + kind + ") of an emptied row", x.shuffles(kind), 1);
        }
        due("the most of ten letters", rowOf(TEN).shuffles(0), 25200);
        due("kind 3, one code", oneCode(rowOf(TEN), 0).shuffles(3), 25200);

        says("Returns its place; INVALID_ARGUMENT if kind is out of range.");
        dueInvalid("placeOf");
        for (int kind = 0; kind < 4; kind++) {
            due("placeOf(" + kind + ") of none", empty().placeOf(kind), 0);
            due("placeOf(" + kind + ") of one letter", rowOf("d").placeOf(kind), 0);
        }
        due("the first of all", rowOf("aaabbbccdd").placeOf(0), 0);
        due("the last of all", rowOf("ddccbbbaaa").placeOf(0), 25199);
        due("the last, kind 3, one code", oneCode(rowOf("ddccbbbaaa"), 2).placeOf(3), 25199);

        says("Returns the letter; INVALID_ARGUMENT if an argument is out of range; NOT_FOUND if there are not so many shuffles, or letters.");
        dueInvalid("shuffleAt");
        x = rowOf(TEN);
        due("the first shuffle", shuffle(x, 0, 0), "aaabbbccdd");
        due("the last shuffle", shuffle(x, 0, 25199), "ddccbbbaaa");
        due("no such shuffle", x.shuffleAt(0, 25200, 0), MISSING);
        due("no such letter", x.shuffleAt(0, 0, 10), MISSING);
        due("the greatest place", x.shuffleAt(0, MOST, 9), MISSING);
        due("the greatest letter", x.shuffleAt(0, 25199, MOST), MISSING);
        due("neither", x.shuffleAt(0, MOST, MOST), MISSING);
        due("no letter in the only shuffle", empty().shuffleAt(2, 0, 0), MISSING);
        for (int kind = 1; kind < 4; kind++) {
            due("the only shuffle", rowOf("a").shuffleAt(kind, 0, 0), 0);
            due("not so many", rowOf("a").shuffleAt(kind, 1, 0), MISSING);
            due("not so many letters", rowOf("a").shuffleAt(kind, 0, 1), MISSING);
        }
        due("the row stays", row(x), TEN);
    }

    private static void testPromises13To15() {
        String[] starts = {"aabb", "abacab", "abacab", "abac"};
        String[] orders = {"aabb abab abba baab baba bbaa", "abacab acabab", "abacab acabab", "abac abca baac baca"};
        says("Returns its place then; INVALID_ARGUMENT if kind is out of range; NOT_POSSIBLE if it is the last one.");
        dueInvalid("next");
        for (int kind = 0; kind < 4; kind++) {
            PairShuffles x = rowOf(starts[kind]);
            String[] order = orders[kind].split(" ");
            for (int place = 1; place < order.length; place++) {
                due("next(" + kind + ")", x.next(kind), place);
                due("the row then", row(x), order[place]);
            }
            due("next(" + kind + ") of the last one", x.next(kind), IMPOSSIBLE);
            due("it does not go around", row(x), order[order.length - 1]);
            due("next(" + kind + ") of an empty row", empty().next(kind), IMPOSSIBLE);
            due("next(" + kind + ") of one letter", rowOf("a").next(kind), IMPOSSIBLE);
        }
        PairShuffles x = rowOf("ddccbbabaa");
        due("the last but one", x.next(0), 25199);
        due("the last one", x.next(0), IMPOSSIBLE);

        says("Returns its place then; INVALID_ARGUMENT if kind is out of range; NOT_POSSIBLE if it is the first one.");
        dueInvalid("back");
        for (int kind = 0; kind < 4; kind++) {
            String[] order = orders[kind].split(" ");
            x = rowOf(order[order.length - 1]);
            for (int place = order.length - 2; place >= 0; place--) {
                due("back(" + kind + ")", x.back(kind), place);
                due("the row then", row(x), order[place]);
            }
            due("back(" + kind + ") of the first one", x.back(kind), IMPOSSIBLE);
            due("it does not go around", row(x), order[0]);
            due("back(" + kind + ") of an empty row", empty().back(kind), IMPOSSIBLE);
            due("back(" + kind + ") of one letter", rowOf("a").back(kind), IMPOSSIBLE);
        }

        says("Returns at how many places its letter is another one than before; INVALID_ARGUMENT if an argument is out of range; "
                + "NOT_POSSIBLE if there are not so many shuffles.");
        dueInvalid("at");
        x = rowOf("aaaaabbbbb");
        due("at the last of 252", x.at(0, 251), 10);
        due("at the same", x.at(0, 251), 0);
        due("not so many", x.at(0, 252), IMPOSSIBLE);
        due("the greatest place", x.at(0, MOST), IMPOSSIBLE);
        due("at the first", x.at(0, 0), 10);
        due("at the next", x.at(0, 1), 2);
        for (int kind = 0; kind < 4; kind++) {
            due("the only one of an empty row", empty().at(kind, 0), 0);
            due("not so many of an empty row", empty().at(kind, 1), IMPOSSIBLE);
            due("the only one of a letter", rowOf("c").at(kind, 0), 0);
            due("not so many of a letter", rowOf("c").at(kind, 1), IMPOSSIBLE);
        }
    }

    private static void testPromises16To18() {
        says("Returns the number; INVALID_ARGUMENT if an argument is out of range.");
        dueInvalid("measure");
        dueInvalid("surprise");
        dueInvalid("pairAt");

        says("0: for how many it is at least as great as for the row; 1: the least one; 2: the greatest one; 3: the sum of it over "
                + "all shuffles; 4: the place of the first shuffle with the greatest one");
        due("the row has the least", surprises(rowOf("bbaa"), 0, 1, 0, 0), "6 2 4 18 1");
        due("the row has the greatest", surprises(rowOf("baba"), 0, 1, 0, 0), "2 2 4 18 1");
        due("between", surprises(rowOf("abba"), 0, 1, 0, 0), "4 2 4 18 1");
        due("the first has the greatest", surprises(rowOf("ba"), 0, 0, 0, 1), "2 0 1 1 0");
        due("the last has the greatest", surprises(rowOf("ab"), 0, 0, 1, 0), "2 0 1 1 1");
        due("all have none", surprises(rowOf("ab"), 0, 0, 3, 3), "2 0 0 0 0");
        due("all have as much", surprises(rowOf("abacab"), 1, 0, 0, 1), "2 2 2 4 0");
        for (int kind = 0; kind < 4; kind++) {
            for (int measure = 0; measure < 4; measure++) {
                due("an empty row", surprises(empty(), kind, measure, 0, 0), "1 0 0 0 0");
            }
            due("one letter, pairs", surprises(rowOf("a"), kind, 0, 0, 0), "1 0 0 0 0");
            due("one letter, runs", surprises(rowOf("a"), kind, 1, 0, 0), "1 1 1 1 0");
            due("one letter, places", surprises(rowOf("a"), kind, 2, 0, 0), "1 1 1 1 0");
            due("one letter, codes", surprises(rowOf("a"), kind, 3, 0, 0), "1 0 0 0 0");
            due("ten equal letters, pairs", surprises(rowOf("dddddddddd"), kind, 0, 3, 3), "1 9 9 9 0");
            due("ten equal letters, codes", surprises(rowOf("dddddddddd"), kind, 3, 2, 0), "1 5 5 5 0");
        }
        due("kind 0", surprises(rowOf("abac"), 0, 0, 1, 0), "6 0 1 6 2");
        due("kind 3", surprises(rowOf("abac"), 3, 0, 1, 0), "3 0 1 3 0");
        due("kind 3, runs", surprises(rowOf("abac"), 3, 1, 0, 0), "3 3 4 15 0");
        due("kind 1", surprises(rowOf("acabab"), 1, 2, 0, 0), "1 4 6 10 1");
        due("kind 2", surprises(rowOf("acabab"), 2, 2, 0, 0), "1 4 6 10 1");
        due("ten letters, places", surprises(rowOf(TEN), 0, 2, 0, 0), "1 0 10 65520 3418");

        says("Returns how many; INVALID_ARGUMENT if an argument is out of range.");
        dueInvalid("common");
        int[][] common = {{60, 2, 2, 8}, {2, 2, 2, 1}, {2, 2, 2, 1}, {8, 1, 1, 8}};
        for (int one = 0; one < 4; one++) {
            for (int other = 0; other < 4; other++) {
                due("common(" + one + ", " + other + ")", rowOf("abacab").common(one, other), common[one][other]);
            }
            PairShuffles x = rowOf("bacabb");
            due("of a kind and itself", x.common(one, one), x.shuffles(one));
            for (int other = 0; other < 4; other++) {
                due("of an empty row", empty().common(one, other), 1);
                due("either way", x.common(one, other), x.common(other, one));
                due("the row at least", x.common(one, other) >= 1 ? 1 : 0, 1);
            }
        }
    }

    // ---- promises 19 to 27

    private static void testPromises19And20() {
        says("Returns how many rows are in the book then; NOT_POSSIBLE if the row is empty; LIMIT_REACHED if there are 8.");
        PairShuffles x = rowOf("ab");
        for (int rows = 1; rows <= 8; rows++) {
            due("keep", x.keep(), rows);
        }
        due("keep the ninth", x.keep(), LIMIT);
        x.undo();
        due("keep the eighth again", x.keep(), 8);
        x.clear();
        due("keep no letter, the book full", x.keep(), IMPOSSIBLE);
        due("keep no letter", empty().keep(), IMPOSSIBLE);
        due("keep one letter", rowOf("a").keep(), 1);
        due("keep ten letters", rowOf(TEN).keep(), 1);

        says("Makes the row the one that is at a place of the book, which stays there.");
        x = empty();
        for (int rows = 1; rows <= 8; rows++) {
            x.append(rows % 4);
            x.keep();
        }
        for (int place = 7; place >= 0; place--) {
            due("recall(" + place + ")", x.recall(place), place + 1);
            due("the row", row(x), "bcdabcda".substring(0, place + 1));
        }
        due("the book", x.count(5), 8);
        due("recall(7) again", x.recall(7), 8);
        x.turn();
        due("recall(7) again", x.recall(7), 8);
        due("the row", row(x), "bcdabcda");

        says("Returns how many letters it has; INVALID_ARGUMENT if place is negative; NOT_POSSIBLE if there are not so many rows in the book.");
        dueInvalid("recall");
        due("recall(8) of eight", x.recall(8), IMPOSSIBLE);
        due("recall(greatest)", x.recall(MOST), IMPOSSIBLE);
        for (int rows = 0; rows < 8; rows++) {
            due("recall(" + rows + ") of " + rows, kept(rowOf("d"), rows).recall(rows), IMPOSSIBLE);
        }
        x = kept(rowOf("d"), 2);
        x.undo();
        due("recall of an undone row", x.recall(1), IMPOSSIBLE);
    }

    private static int kinship(PairShuffles x, String keptRow, String row) {
        typed(x, "row " + keptRow + ";keep;row " + row + ";").play();
        return x.kinship(x.count(5) - 1);
    }

    private static void testPromise21() {
        says("the first one of the kinds 2, 1, 3, 0, in this order, by which it is one");
        due("the row itself, of all kinds", kinship(empty(), "abacab", "abacab"), 2);
        due("by the pairs and not the codes", kinship(empty(), "acabab", "abacab"), 2);
        due("by the codes and not the pairs", kinship(empty(), "baacab", "abacab"), 3);
        due("by the letters alone", kinship(empty(), "aabbac", "abacab"), 0);
        due("one letter", kinship(empty(), "c", "c"), 2);
        due("a last letter left over", kinship(empty(), "bacbb", "abcbb"), 3);
        due("the first word alone alike", kinship(empty(), "aabbab", "aaabbb"), 0);
        PairShuffles one = oneCode(empty(), 0);
        one.code(0, 1, 1);
        due("the last word alone unlike", kinship(one, "ccccccccab", "ccccccccba"), 0);
        due("the second word alone unlike", kinship(one, "ccabcccccc", "ccbacccccc"), 0);
        due("all words alike", kinship(one, "ccabcdcccc", "ccabdccccc"), 3);
        one = oneCode(empty(), 0);
        one.code(2, 0, 1);
        due("another letter left over", kinship(one, "abc", "acb"), 3);
        says("(by the table as it is now)");
        PairShuffles x = oneCode(empty(), 0);
        due("one code", kinship(x, "aabbac", "abacab"), 3);
        x.code(0, 0, 1);
        due("another one", x.kinship(0), 0);
        x.undo();
        due("one code again", x.kinship(0), 3);

        says("Returns the kind; INVALID_ARGUMENT if place is negative; NOT_FOUND if there are not so many rows in the book, or it is no shuffle of the row.");
        dueInvalid("kinship");
        due("an empty book", empty().kinship(0), MISSING);
        x = kept(rowOf("ab"), 8);
        due("the last of eight", x.kinship(7), 2);
        due("behind it", x.kinship(8), MISSING);
        due("the greatest place", x.kinship(MOST), MISSING);
        x.append(0);
        due("fewer letters", x.kinship(0), MISSING);
        x.clear();
        due("an empty row", x.kinship(0), MISSING);
        x.append(0);
        due("more letters", x.kinship(0), MISSING);
        due("as many, but others", kinship(empty(), "ab", "aa"), MISSING);
        due("the same pairs, but others", kinship(empty(), "bcab", "abca"), MISSING);
    }

    private static void testPromise22() {
        says("0: letters of the row; 1: unlike letters in it; 2: unlike pairs in it; 3: its runs; 4: its words; 5: rows in the book; "
                + "6: states in the history; 7: the length of the text");
        dueInvalid("count");
        String[] rows = {"", "d", "dd", "da", "dad", "aaaaaaaaaa", "abcdabcdab", "aabbccddac"};
        String[] wants = {"0 0 0 0 0", "1 1 0 1 0", "2 1 1 1 1", "2 2 1 2 1", "3 2 2 3 1", "10 1 1 1 5", "10 4 4 10 5", "10 4 9 6 5"};
        for (int i = 0; i < rows.length; i++) {
            PairShuffles x = rowOf(rows[i]);
            due("count(0) to count(4) of '" + rows[i] + "'",
                    x.count(0) + " " + x.count(1) + " " + x.count(2) + " " + x.count(3) + " " + x.count(4), wants[i]);
        }
        PairShuffles x = STATES.get(1).get();
        due("the book, the history and the text full", x.count(5) + " " + x.count(6) + " " + x.count(7), "8 4 60");
        x = empty();
        due("all empty", x.count(5) + " " + x.count(6) + " " + x.count(7), "0 0 0");
    }

    private static void testPromises23To25() {
        says("Returns the number of states that are left in the history; NOT_POSSIBLE if it is empty.");
        due("of a new object", empty().undo(), IMPOSSIBLE);
        PairShuffles x = rowOf("abcd");
        for (int left = 3; left >= 0; left--) {
            due("undo", x.undo(), left);
        }
        due("undo then", x.undo(), IMPOSSIBLE);
        due("undo is no change", x.count(6), 0);
        due("the row", row(x), "");

        says("Restores the latest state of the history, which is removed from it.");
        x = rowOf("ab");
        x.undo();
        due("the latest", row(x), "a");
        x.undo();
        due("the one before", row(x), "");

        says("Returns the length of the text; INVALID_ARGUMENT if character is out of range; LIMIT_REACHED if it has 60 characters.");
        dueInvalid("type");
        x = empty();
        for (int length = 1; length <= 60; length++) {
            due("type", x.type(length % 2 == 0 ? 32 : 126), length);
        }
        due("type one more", x.type(32), LIMIT);
        x.clearText();
        due("type then", x.type(126), 1);

        says("Returns the length it had.");
        due("of none", empty().clearText(), 0);
        due("of one", x.clearText(), 1);
        due("again", x.clearText(), 0);
        due("of 60", STATES.get(1).get().clearText(), 60);
        x = typed(rowOf("ab"), "turn;keep");
        x.clearText();
        due("what was typed is gone", typed(x, "turn").count(7), 4);
        dueFault(x, "turn", "0 1 4");
        due("the row stays", row(x), "ab");
    }

    private static void testPromises26And27() {
        says("Returns that; INVALID_ARGUMENT if what is out of range; NOT_FOUND if the text has no fault (also if it is empty), for 2 if the reason is 2.");
        dueInvalid("fault");
        dueFault(empty(), "", "- - -");
        dueFault(rowOf("a"), "turn;", "- - -");
        dueFault(rowOf("a"), "next 4;", "0 2 -");
        dueFault(rowOf("a"), "turn;place 4 0;", "5 2 -");
        dueFault(rowOf("a"), "next 3;", "0 3 1");

        says("Does all orders of the text, which stays. They are one change, also if there are none.");
        PairShuffles x = empty();
        due("no order", x.play(), 0);
        due("one change", x.count(6), 1);
        typed(x, "row ab;keep;next 0;keep;turn;keep;place 0 1;row dc;");
        due("eight orders", x.play(), 8);
        due("one change", x.count(6), 2);
        due("the row and the book", row(x) + x.count(5), "dc3");
        due("the text stays", x.count(7), 51);
        due("once more", x.play(), 8);
        due("the row and the book", row(x) + x.count(5), "dc6");
        due("not a third time", x.play(), IMPOSSIBLE);
        due("which does none of them", row(x) + x.count(5) + x.count(6), "dc63");
        due("undo", x.undo(), 2);
        due("undo", x.undo(), 1);
        due("the row and the book", row(x) + x.count(5), "0");
        due("the book can be filled then", x.play(), 8);
        x.recall(2);
        due("the third row of the book", row(x), "ab");

        says("Returns how many there are in it; NOT_POSSIBLE if it has a fault.");
        due("a fault of form", typed(rowOf("ab"), "turn;turn").play(), IMPOSSIBLE);
        due("a fault of kind", typed(rowOf("ab"), "turn;next 4;").play(), IMPOSSIBLE);
        due("a fault of state", typed(rowOf("ab"), "turn;next 0;").play(), IMPOSSIBLE);
        due("one order", typed(rowOf("ab"), "turn;").play(), 1);
        due("twelve orders", typed(rowOf("ab"), "turn;".repeat(12)).play(), 12);
    }

    // ---- all of them

    /** A sentence that the document does not have (any more) is tested for nothing. */
    private static void testQuotes() throws IOException {
        Path path = Path.of("../shared/DOC.md");
        String document = Files.readString(path);
        for (String words : QUOTED) {
            if (!document.contains(words)) {
                wrong++;
                System.out.println("the document does not say: " + words);
            }
        }
    }

    public static void main(String[] args) throws IOException {
        testCalls();
        testLetters();
        testPairs();
        testWords();
        testKinds();
        testOrder();
        testMeasures();
        testTexts();
        testForms();
        testKindsAndNumbers();
        testPositionAndReason();
        testWordCause();
        testBreakCause();
        testStateCause();
        testWhatIsAChange();
        testWhatIsNoChange();
        testHistory();
        testErrorOrder();
        testRefusedCalls();
        testConstants();
        testPromises1To4();
        testPromises5To7();
        testPromises8And9();
        testPromises10To12();
        testPromises13To15();
        testPromises16To18();
        testPromises19And20();
        testPromise21();
        testPromise22();
        testPromises23To25();
        testPromises26And27();
        testQuotes();
        System.out.println(wrong == 0 ? QUOTED.size() + " sentences hold" : wrong + " answers are not as due");
        if (wrong != 0) {
            System.exit(1);
        }
    }
}
