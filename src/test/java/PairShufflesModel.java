import java.util.ArrayDeque;
import java.util.ArrayList;
import java.util.Arrays;
import java.util.Comparator;
import java.util.Deque;
import java.util.HashMap;
import java.util.List;
import java.util.Map;
import java.util.TreeSet;
import java.util.function.IntSupplier;
import java.util.regex.Matcher;
import java.util.regex.Pattern;
import java.util.stream.Collectors;
import java.util.stream.IntStream;

/** Long runs of calls, answered both by the class and by a model that lists every shuffle. */
public final class PairShufflesModel {
    private static final int INVALID = -1000001;
    private static final int IMPOSSIBLE = -1000002;
    private static final int LIMIT = -1000003;
    private static final int MISSING = -1000004;
    private static int wrong = 0;
    private static long seed = 1;

    /** What undo brings back. */
    private record Saved(String row, int[] table, List<String> book) {
        Saved copy() {
            return new Saved(row, table.clone(), new ArrayList<>(book));
        }
    }

    private static final class Model {
        static final Pattern ORDER = Pattern.compile("row ([a-d]{1,10});|turn;|next ([0-9]);|place ([0-9]) ([0-9]{1,6});|keep;");
        static final Map<String, List<String>> ALL = new HashMap<>();
        Saved now = new Saved("", new int[16], new ArrayList<>());
        final Deque<Saved> past = new ArrayDeque<>();
        String text = "";
        int position;
        int reason;
        int cause;
        int orders;
        Saved result;

        Model() {
            for (int i = 0; i < 16; i++) {
                now.table[i] = (i / 4 + i % 4) % 4;
            }
        }

        static boolean letters(int... values) {
            return Arrays.stream(values).allMatch(value -> value >= 0 && value < 4);
        }

        static int letter(String row, int place) {
            return row.charAt(place) - 'a';
        }

        static String sorted(String row) {
            return row.chars().sorted().mapToObj(Character::toString).collect(Collectors.joining());
        }

        static int often(String row, int x, int y) {
            String pair = "" + (char) ('a' + x) + (char) ('a' + y);
            return (int) IntStream.range(0, row.length()).filter(i -> row.startsWith(pair, i)).count();
        }

        static void orderings(String rest, String made, List<String> into) {
            if (rest.isEmpty()) {
                into.add(made);
            }
            for (char letter = 'a'; letter <= 'd'; letter++) {
                int i = rest.indexOf(letter);
                if (i >= 0) {
                    orderings(rest.substring(0, i) + rest.substring(i + 1), made + letter, into);
                }
            }
        }

        static boolean isShuffle(Saved state, String other, int kind) {
            String row = state.row;
            if (!sorted(row).equals(sorted(other))) {
                return false;
            }
            if (kind == 1 || kind == 2) {
                for (int pair = 0; pair < 16; pair++) {
                    if (often(row, pair / 4, pair % 4) != often(other, pair / 4, pair % 4)) {
                        return false;
                    }
                }
            }
            if (kind == 2 && !row.isEmpty() && row.charAt(0) != other.charAt(0)) {
                return false;
            }
            if (kind == 3) {
                for (int i = 0; i + 1 < row.length(); i += 2) {
                    if (state.table[4 * letter(row, i) + letter(row, i + 1)]
                            != state.table[4 * letter(other, i) + letter(other, i + 1)]) {
                        return false;
                    }
                }
            }
            return true;
        }

        static List<String> all(Saved state, int kind) {
            if (ALL.size() > 20000) {
                ALL.clear();
            }
            String key = state.row + kind + (kind == 3 ? Arrays.toString(state.table) : "");
            return ALL.computeIfAbsent(key, none -> {
                List<String> rows = ALL.get(sorted(state.row));
                if (rows == null) {
                    rows = new ArrayList<>();
                    orderings(state.row, "", rows);
                }
                List<String> kept = new ArrayList<>();
                for (String row : rows) {
                    if (isShuffle(state, row, kind)) {
                        kept.add(row);
                    }
                }
                return kept;
            });
        }

        int measureOf(String row, int measure, int x, int y) {
            int number = 0;
            for (int i = 0; i < row.length(); i++) {
                boolean more = switch (measure) {
                    case 0 -> row.startsWith("" + (char) ('a' + x) + (char) ('a' + y), i);
                    case 1 -> i + 1 == row.length() || row.charAt(i) != row.charAt(i + 1);
                    case 2 -> row.charAt(i) == now.row.charAt(i);
                    default -> i % 2 == 0 && i + 1 < row.length() && now.table[4 * letter(row, i) + letter(row, i + 1)] == x;
                };
                number += more ? 1 : 0;
            }
            return number;
        }

        void change(Saved next) {
            past.addLast(now.copy());
            if (past.size() == 5) {
                past.removeFirst();
            }
            now = next;
        }

        int moveTo(String row) {
            change(new Saved(row, now.table, now.book));
            return row.length();
        }

        int append(int letter) {
            if (!letters(letter)) {
                return INVALID;
            }
            return now.row.length() == 10 ? LIMIT : moveTo(now.row + (char) ('a' + letter));
        }

        int clear() {
            int before = now.row.length();
            moveTo("");
            return before;
        }

        int code(int first, int second, int code) {
            if (!letters(first, second, code)) {
                return INVALID;
            }
            Saved next = now.copy();
            int before = next.table[4 * first + second];
            next.table[4 * first + second] = code;
            change(next);
            return before;
        }

        int turn() {
            if (now.row.isEmpty()) {
                return IMPOSSIBLE;
            }
            moveTo(new StringBuilder(now.row).reverse().toString());
            return letter(now.row, 0);
        }

        int letterAt(int place) {
            return place < 0 ? INVALID : place >= now.row.length() ? MISSING : letter(now.row, place);
        }

        int codeOf(int first, int second) {
            return letters(first, second) ? now.table[4 * first + second] : INVALID;
        }

        int pairAt(int place, int what) {
            if (place < 0 || place > 15 || what < 0 || what > 1) {
                return INVALID;
            }
            List<Integer> order = new ArrayList<>();
            for (int i = 0; i < 16; i++) {
                order.add(i);
            }
            order.sort(Comparator.comparingInt((Integer i) -> -often(now.row, i / 4, i % 4)).thenComparingInt(i -> i));
            int pair = order.get(place);
            return what == 0 ? pair : often(now.row, pair / 4, pair % 4);
        }

        int bias(int x, int y, int part) {
            if (!letters(x, y) || part < 0 || part > 1) {
                return INVALID;
            }
            int below = (int) (now.row.chars().filter(c -> c == 'a' + x).count() * now.row.chars().filter(c -> c == 'a' + y).count());
            if (below == 0) {
                return MISSING;
            }
            int above = often(now.row, x, y) * now.row.length();
            for (int divisor = 100; divisor > 1; divisor--) {
                if (above % divisor == 0 && below % divisor == 0) {
                    above /= divisor;
                    below /= divisor;
                }
            }
            return part == 0 ? above : below;
        }

        int shuffles(int kind) {
            return letters(kind) ? all(now, kind).size() : INVALID;
        }

        int placeOf(int kind) {
            return letters(kind) ? all(now, kind).indexOf(now.row) : INVALID;
        }

        int shuffleAt(int kind, int place, int letter) {
            if (!letters(kind) || place < 0 || letter < 0) {
                return INVALID;
            }
            List<String> all = all(now, kind);
            return place >= all.size() || letter >= now.row.length() ? MISSING : letter(all.get(place), letter);
        }

        int step(int kind, int by) {
            if (!letters(kind)) {
                return INVALID;
            }
            List<String> all = all(now, kind);
            int place = all.indexOf(now.row) + by;
            if (place < 0 || place >= all.size()) {
                return IMPOSSIBLE;
            }
            moveTo(all.get(place));
            return place;
        }

        int at(int kind, int place) {
            if (!letters(kind) || place < 0) {
                return INVALID;
            }
            List<String> all = all(now, kind);
            if (place >= all.size()) {
                return IMPOSSIBLE;
            }
            int same = measureOf(all.get(place), 2, 0, 0);
            return moveTo(all.get(place)) - same;
        }

        int measure(int measure, int x, int y) {
            return letters(measure, x, y) ? measureOf(now.row, measure, x, y) : INVALID;
        }

        int surprise(int kind, int measure, int x, int y, int what) {
            if (!letters(kind, measure, x, y) || what < 0 || what > 4) {
                return INVALID;
            }
            int mine = measureOf(now.row, measure, x, y);
            int[] all = all(now, kind).stream().mapToInt(row -> measureOf(row, measure, x, y)).toArray();
            int greatest = Arrays.stream(all).max().getAsInt();
            return switch (what) {
                case 0 -> (int) Arrays.stream(all).filter(value -> value >= mine).count();
                case 1 -> Arrays.stream(all).min().getAsInt();
                case 2 -> greatest;
                case 3 -> Arrays.stream(all).sum();
                default -> IntStream.range(0, all.length).filter(i -> all[i] == greatest).findFirst().getAsInt();
            };
        }

        int common(int one, int other) {
            if (!letters(one, other)) {
                return INVALID;
            }
            return (int) all(now, one).stream().filter(row -> isShuffle(now, row, other)).count();
        }

        int keep() {
            if (now.row.isEmpty()) {
                return IMPOSSIBLE;
            }
            if (now.book.size() == 8) {
                return LIMIT;
            }
            Saved next = now.copy();
            next.book.add(now.row);
            change(next);
            return next.book.size();
        }

        int recall(int place) {
            return place < 0 ? INVALID : place >= now.book.size() ? IMPOSSIBLE : moveTo(now.book.get(place));
        }

        int kinship(int place) {
            if (place < 0) {
                return INVALID;
            }
            if (place < now.book.size()) {
                for (int kind : new int[] {2, 1, 3, 0}) {
                    if (isShuffle(now, now.book.get(place), kind)) {
                        return kind;
                    }
                }
            }
            return MISSING;
        }

        int count(int what) {
            String row = now.row;
            return switch (what) {
                case 0 -> row.length();
                case 1 -> (int) row.chars().distinct().count();
                case 2 -> {
                    TreeSet<String> pairs = new TreeSet<>();
                    for (int i = 1; i < row.length(); i++) {
                        pairs.add(row.substring(i - 1, i + 1));
                    }
                    yield pairs.size();
                }
                case 3 -> measureOf(row, 1, 0, 0);
                case 4 -> row.length() / 2;
                case 5 -> now.book.size();
                case 6 -> past.size();
                case 7 -> text.length();
                default -> INVALID;
            };
        }

        int undo() {
            if (past.isEmpty()) {
                return IMPOSSIBLE;
            }
            now = past.removeLast();
            return past.size();
        }

        int type(int character) {
            if (character < 32 || character > 126) {
                return INVALID;
            }
            if (text.length() == 60) {
                return LIMIT;
            }
            text += (char) character;
            return text.length();
        }

        int clearText() {
            int before = text.length();
            text = "";
            return before;
        }

        static int breakOf(String order) {
            String word = order.replaceAll("[^a-z].*", "");
            if (!List.of("row", "turn", "next", "place", "keep").contains(word)) {
                return 0;
            }
            int fitting = 0;
            for (int length = 1; length <= order.length(); length++) {
                Matcher matcher = ORDER.matcher(order.substring(0, length));
                if (matcher.matches() || matcher.hitEnd()) {
                    fitting = length;
                }
            }
            return fitting;
        }

        void run() {
            position = 0;
            reason = 0;
            cause = 0;
            orders = 0;
            result = now.copy();
            while (position < text.length() && reason == 0) {
                String rest = text.substring(position);
                Matcher order = ORDER.matcher(rest);
                if (!order.lookingAt()) {
                    reason = 1;
                    cause = breakOf(rest);
                    return;
                }
                String kind = order.group(2) != null ? order.group(2) : order.group(3);
                if (kind != null && kind.charAt(0) > '3') {
                    reason = 2;
                    return;
                }
                cause = carryOut(order, rest, kind == null ? 0 : kind.charAt(0) - '0');
                reason = cause == 0 ? 0 : 3;
                if (reason == 0) {
                    orders++;
                    position += order.end();
                }
            }
        }

        int carryOut(Matcher order, String rest, int kind) {
            String row = result.row;
            if (order.group(1) != null) {
                row = order.group(1);
            } else if (rest.startsWith("turn")) {
                row = new StringBuilder(row).reverse().toString();
                if (row.isEmpty()) {
                    return 3;
                }
            } else if (rest.startsWith("keep")) {
                if (result.book.size() == 8 || row.isEmpty()) {
                    return result.book.size() == 8 ? 2 : 3;
                }
                result.book.add(row);
            } else {
                List<String> all = all(result, kind);
                int place = order.group(4) != null ? Integer.parseInt(order.group(4)) : all.indexOf(row) + 1;
                if (place >= all.size()) {
                    return 1;
                }
                row = all.get(place);
            }
            result = new Saved(row, result.table, result.book);
            return 0;
        }

        int fault(int what) {
            if (what < 0 || what > 2) {
                return INVALID;
            }
            run();
            if (reason == 0 || reason == 2 && what == 2) {
                return MISSING;
            }
            return what == 0 ? position : what == 1 ? reason : cause;
        }

        int play() {
            run();
            if (reason != 0) {
                return IMPOSSIBLE;
            }
            change(result);
            return orders;
        }
    }

    private static int below(int bound) {
        seed = seed * 6364136223846793005L + 1442695040888963407L;
        return (int) ((seed >>> 33) % bound);
    }

    private static int oneOf(int... values) {
        return values[below(values.length)];
    }

    /** Mostly a number from 0 to 3, now and then one that is out of range. */
    private static int small() {
        return below(40) == 0 ? oneOf(-1, 4, Integer.MIN_VALUE, Integer.MAX_VALUE, 8) : below(4);
    }

    private static int place(int shuffles) {
        int near = below(Math.max(1, shuffles));
        return oneOf(near, near, near, near, 0, shuffles - 1, shuffles, -1, below(12), Integer.MAX_VALUE, Integer.MIN_VALUE);
    }

    private static String order(int length) {
        StringBuilder row = new StringBuilder();
        for (int i = 0; i < length; i++) {
            row.append((char) ('a' + below(4)));
        }
        String kind = below(25) == 0 ? "" + below(10) : "" + below(4);
        String number = "" + oneOf(below(3), below(40), below(30000), below(2));
        String order = switch (below(6)) {
            case 0 -> "row " + row + ";";
            case 1 -> "turn;";
            case 2, 3 -> "next " + kind + ";";
            case 4 -> "place " + kind + " " + "00".substring(below(3)) + number + ";";
            default -> "keep;";
        };
        if (below(12) > 0) {
            return order;
        }
        int at = below(order.length());
        String sign = "" + (char) oneOf(32 + below(95), 'a', 'e', ' ', ';', '0', '9', '4', 'A', '`', '{', ':', '/');
        return order.substring(0, at) + (below(3) == 0 ? "" : sign) + order.substring(at + below(2));
    }

    private final PairShuffles real = new PairShuffles();
    private final Model model = new Model();
    private final StringBuilder told = new StringBuilder();
    private int calls = 0;

    private void same(String call, int got, IntSupplier due) {
        int want = due.getAsInt();
        calls++;
        told.append(call).append(" = ").append(want).append("; ");
        if (got != want) {
            wrong++;
            System.out.println(told + " but answered " + got + ", row now " + model.now.row);
        }
    }

    private void typeOrder(int length) {
        if (below(3) == 0) {
            same("clearText()", real.clearText(), model::clearText);
        }
        String order = order(length);
        for (int i = 0; i < order.length() && calls < 500; i++) {
            int sign = below(200) == 0 ? oneOf(31, 127, -1, 32, 126) : order.charAt(i);
            same("type(" + sign + ")", real.type(sign), () -> model.type(sign));
        }
        for (int what = 0; what < 3; what++) {
            int which = what;
            same("fault(" + what + ")", real.fault(what), () -> model.fault(which));
        }
    }

    private void callTheRow(int most) {
        int a = small();
        int b = small();
        int c = small();
        int place = oneOf(below(12), below(12), -1, 15, 16);
        switch (below(9)) {
            case 0, 1, 2 -> {
                if (model.now.row.length() < most || below(8) == 0) {
                    same("append(" + a + ")", real.append(a), () -> model.append(a));
                }
            }
            case 3 -> same("code(" + a + "," + b + "," + c + ")", real.code(a, b, c), () -> model.code(a, b, c));
            case 4 -> same("turn()", real.turn(), model::turn);
            case 5 -> same("letterAt(" + place + ")", real.letterAt(place), () -> model.letterAt(place));
            case 6 -> same("codeOf(" + a + "," + b + ")", real.codeOf(a, b), () -> model.codeOf(a, b));
            case 7 -> {
                int what = oneOf(0, 1, 0, 1, 0, 1, 2, -1);
                same("pairAt(" + place + "," + what + ")", real.pairAt(place, what), () -> model.pairAt(place, what));
                same("bias(" + a + "," + b + "," + what + ")", real.bias(a, b, what), () -> model.bias(a, b, what));
            }
            default -> {
                if (below(3) == 0) {
                    same("clear()", real.clear(), model::clear);
                }
            }
        }
    }

    private void callShuffles() {
        int kind = small();
        int place = place(model.shuffles(kind));
        int letter = below(30) == 0 ? -1 : below(11);
        switch (below(6)) {
            case 0 -> same("shuffles(" + kind + ")", real.shuffles(kind), () -> model.shuffles(kind));
            case 1 -> same("placeOf(" + kind + ")", real.placeOf(kind), () -> model.placeOf(kind));
            case 2 -> same("shuffleAt(" + kind + "," + place + "," + letter + ")", real.shuffleAt(kind, place, letter),
                    () -> model.shuffleAt(kind, place, letter));
            case 3 -> same("next(" + kind + ")", real.next(kind), () -> model.step(kind, 1));
            case 4 -> same("back(" + kind + ")", real.back(kind), () -> model.step(kind, -1));
            default -> same("at(" + kind + "," + place + ")", real.at(kind, place), () -> model.at(kind, place));
        }
    }

    private void callMeasures() {
        int kind = small();
        int measure = small();
        int x = small();
        int y = small();
        int what = below(30) == 0 ? oneOf(-1, 5) : below(5);
        switch (below(4)) {
            case 0 -> same("measure(" + measure + "," + x + "," + y + ")", real.measure(measure, x, y),
                    () -> model.measure(measure, x, y));
            case 1 -> same("common(" + kind + "," + measure + ")", real.common(kind, measure),
                    () -> model.common(kind, measure));
            default -> same("surprise(" + kind + "," + measure + "," + x + "," + y + "," + what + ")",
                    real.surprise(kind, measure, x, y, what), () -> model.surprise(kind, measure, x, y, what));
        }
    }

    private void callTheBook() {
        int place = oneOf(below(9), below(3), -1, below(model.now.book.size() + 1));
        int what = below(30) == 0 ? oneOf(-1, 8, 9) : below(8);
        switch (below(5)) {
            case 0 -> same("keep()", real.keep(), model::keep);
            case 1 -> same("recall(" + place + ")", real.recall(place), () -> model.recall(place));
            case 2 -> same("kinship(" + place + ")", real.kinship(place), () -> model.kinship(place));
            case 3 -> same("count(" + what + ")", real.count(what), () -> model.count(what));
            default -> {
                for (int i = below(4) == 0 ? below(6) : 0; i >= 0; i--) {
                    same("undo()", real.undo(), model::undo);
                }
            }
        }
    }

    private void run(int most) {
        while (calls < 480 && wrong == 0) {
            switch (below(12)) {
                case 0, 1, 2 -> callTheRow(most);
                case 3, 4 -> callShuffles();
                case 5, 6 -> callMeasures();
                case 7, 8, 9 -> callTheBook();
                case 10 -> typeOrder(1 + below(most));
                default -> same("play()", real.play(), model::play);
            }
            if (below(6) == 0) {
                int place = below(10);
                same("letterAt(" + place + ")", real.letterAt(place), () -> model.letterAt(place));
            }
        }
    }

    public static void main(String[] args) {
        int runs = args.length > 0 ? Integer.parseInt(args[0]) : 400;
        seed = args.length > 1 ? Long.parseLong(args[1]) : 1;
        for (int i = 0; i < runs && wrong == 0; i++) {
            int most = i % 20 == 0 ? 10 : 2 + i % 7;
            new PairShufflesModel().run(most);
        }
        System.out.println(wrong == 0 ? "the class and the model answer alike" : "the class and the model differ");
        if (wrong != 0) {
            System.exit(1);
        }
    }
}
