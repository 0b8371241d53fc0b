import java.util.ArrayList;
import java.util.Arrays;
import java.util.Collections;
import java.util.Comparator;
import java.util.LinkedHashSet;
import java.util.List;
import java.util.Set;
import java.util.TreeSet;
import java.util.regex.Matcher;
import java.util.regex.Pattern;

/**
 * Every small text and every small table, and a fixed choice of greater ones, each with several codes, beside
 * a second model. It was written anew from the document, with texts and sets in place of bits, so that a
 * sentence that was misread for OracleTest has another chance to be seen.
 */
public final class SmallTablesTest {
    private static final int NONE = -1, UNKNOWN = -1001, OUTSIDE = -1002, STATE = -1003, FULL = -1004;
    private static final int MOST_CALLS = 512;

    private static int wrong;
    private static long calls;

    public static void main(String[] args) {
        everyShortText();
        everySpoiltTable();
        everyTable(2, 2, 2);
        everyTable(2, 3, 1);
        everyTable(3, 2, 0);
        everyTable(2, 4, 0);
        someGreaterTables();
        System.out.println(wrong == 0
            ? "all " + calls + " answers are as the document's words" : wrong + " answers are not as due");
        if (wrong != 0) {
            System.exit(1);
        }
    }

    // ---- texts

    /** What the document calls a TABLE, but for ROWS that may be wanting. */
    private static final Pattern[] SHAPES = {
        Pattern.compile("([a-f-]{2};){1,5}[a-f-]{2}"),
        Pattern.compile("([a-f-]{3};){1,5}[a-f-]{3}"),
        Pattern.compile("([a-f-]{4};){1,5}[a-f-]{4}"),
    };

    private static boolean beginsSomeTable(String text) {
        for (Pattern shape : SHAPES) {
            Matcher matcher = shape.matcher(text);
            if (matcher.matches() || matcher.hitEnd()) {
                return true;
            }
        }
        return false;
    }

    private static int faultOf(String text) {
        int place = 0;
        while (place < text.length() && beginsSomeTable(text.substring(0, place + 1))) {
            place++;
        }
        return place;
    }

    private static int tableOf(String text) {
        int rows = text.split(";", -1).length;
        for (Pattern shape : SHAPES) {
            if (shape.matcher(text).matches()) {
                return text.chars().allMatch(sign -> sign < 'a' || sign - 'a' < rows) ? rows : STATE;
            }
        }
        return STATE;
    }

    private static void checkText(String text) {
        FlowCodes x = new FlowCodes();
        for (int i = 0; i < text.length(); i++) {
            due(text, "letter", x.letter(text.charAt(i)), i + 1);
        }
        int read = tableOf(text);
        due(text, "fault", x.fault(), faultOf(text));
        due(text, "table", x.table(), read);
        due(text, "count(0)", x.count(0), read == STATE ? text.length() : 0);
        due(text, "count(1)", x.count(1), Math.max(read, 0));
        due(text, "count(6)", x.count(6), read == STATE ? 0 : 1);
        due(text, "blank", x.blank(), read == STATE ? text.length() : 0);
        due(text, "table of nothing", x.table(), STATE);
    }

    private static void everyShortText() {
        List<String> texts = new ArrayList<>(List.of(""));
        for (int i = 0; i < texts.size(); i++) {
            checkText(texts.get(i));
            if (texts.get(i).length() < 7) {
                for (char sign : "ac-;g".toCharArray()) {
                    texts.add(texts.get(i) + sign);
                }
            }
        }
    }

    /** Tables of every shape with one letter put in, taken out or changed, at every place. */
    private static void everySpoiltTable() {
        for (int rows = 1; rows <= 7; rows++) {
            for (int width = 1; width <= 5 && rows * (width + 1) <= 40; width++) {
                String text = String.join(";", Collections.nCopies(rows, "a-ba-".substring(0, width)));
                checkText(text);
                for (int place = 0; place <= text.length(); place++) {
                    String ahead = text.substring(0, place);
                    String behind = text.substring(place);
                    for (String sign : new String[] {"a", "f", "-", ";", "g", "A", " ", "`"}) {
                        checkText(ahead + sign + behind);
                        if (!behind.isEmpty()) {
                            checkText(ahead + sign + behind.substring(1));
                        }
                    }
                    if (!behind.isEmpty()) {
                        checkText(ahead + behind.substring(1));
                    }
                }
            }
        }
    }

    // ---- tables

    private static void everyTable(int states, int columns, int mostPut) {
        char[] signs = "-abcdef".substring(0, states + 1).toCharArray();
        int[] chosen = new int[states * columns];
        boolean more = true;
        while (more) {
            StringBuilder text = new StringBuilder();
            for (int i = 0; i < chosen.length; i++) {
                text.append(i > 0 && i % columns == 0 ? ";" : "").append(signs[chosen[i]]);
            }
            checkTable(text.toString(), mostPut);
            int place = 0;
            while (place < chosen.length && chosen[place] == signs.length - 1) {
                chosen[place++] = 0;
            }
            more = place < chosen.length;
            if (more) {
                chosen[place]++;
            }
        }
    }

    /** The table with its own code, and with each code of so many signals at most. */
    private static void checkTable(String text, int mostPut) {
        Words words = new Words(text, null);
        check(words);
        if (!words.normal) {
            return;
        }
        check(new Words(text, List.of()));
        List<List<Integer>> codes = new ArrayList<>(List.of(List.of()));
        for (int i = 0; i < codes.size(); i++) {
            if (codes.get(i).size() < mostPut) {
                for (int bits = 0; bits < 1 << words.states; bits++) {
                    List<Integer> longer = new ArrayList<>(codes.get(i));
                    longer.add(bits);
                    codes.add(longer);
                    check(new Words(text, longer));
                }
            }
        }
    }

    private static long seed = 20261118L;

    private static int chosen(int below) {
        seed = seed * 6364136223846793005L + 1442695040888963407L;
        return (int) ((seed >>> 33) % below);
    }

    private static void someGreaterTables() {
        for (int i = 0; i < 260; i++) {
            int states = 3 + i % 4;
            String text = chosenTable(states, 2 + i / 4 % 3, i % 13 == 12);
            Words words = new Words(text, null);
            check(words);
            if (words.normal) {
                List<Integer> code = new ArrayList<>(words.code);
                code.add(chosen(code.size() + 1), chosen(1 << states));
                Collections.shuffle(code, new java.util.Random(i));
                if (code.size() <= 5) {
                    check(new Words(text, code));
                }
                code.remove(chosen(code.size()));
                check(new Words(text, code));
            }
        }
    }

    /** In each column some states are stable, and the others open or on the way to one of these. */
    private static String chosenTable(int states, int columns, boolean loose) {
        char[][] rows = new char[states][columns];
        for (int column = 0; column < columns; column++) {
            int stable = 1 + chosen((1 << states) - 1);
            for (int state = 0; state < states; state++) {
                int to = chosen(states);
                while (!loose && (stable >> to & 1) == 0) {
                    to = chosen(states);
                }
                boolean open = chosen(8) == 0;
                boolean rests = (stable >> state & 1) != 0;
                rows[state][column] = rests ? (char) ('a' + state) : open ? '-' : (char) ('a' + to);
            }
        }
        StringBuilder text = new StringBuilder();
        for (char[] row : rows) {
            text.append(text.length() > 0 ? ";" : "").append(row);
        }
        return text.toString();
    }

    // ---- every call beside the model

    private static void check(Words w) {
        Asked x = new Asked(w);
        checkFlow(w, x);
        checkPartings(w, x);
        checkCode(w, x);
        for (int signal = -1; signal <= w.code.size(); signal++) {
            checkWanted(w, x, signal);
            checkLogic(w, x, signal);
        }
        due(w.name, "digest", x.get().digest(), w.digest());
        checkWalks(w);
    }

    private static void checkFlow(Words w, Asked x) {
        for (int state = -1; state <= w.states; state++) {
            for (int column = -1; column <= w.columns; column++) {
                boolean there = w.hasState(state) && w.hasColumn(column);
                due(w.name, "entry " + state + " " + column, x.get().entry(state, column),
                    there ? w.entry(state, column) : UNKNOWN);
            }
        }
        for (int what = -1; what <= 5; what++) {
            due(w.name, "about " + what, x.get().about(what), w.about(what));
        }
    }

    private static void checkPartings(Words w, Asked x) {
        for (int parting = -1; parting <= w.partings.size(); parting++) {
            for (int what = -1; what <= 3; what++) {
                due(w.name, "parting " + parting + " " + what, x.get().parting(parting, what),
                    w.parting(parting, what));
            }
        }
        for (int signal = -2; signal <= 5; signal++) {
            due(w.name, "least " + signal, x.get().least(signal), w.least(signal));
        }
    }

    private static void checkCode(Words w, Asked x) {
        for (int state = -1; state <= w.states; state++) {
            int code = !w.hasState(state) ? UNKNOWN : w.normal ? number(w.codes[state]) : STATE;
            due(w.name, "code " + state, x.get().code(state), code);
        }
        for (int what = -1; what <= 6; what++) {
            due(w.name, "coded " + what, x.get().coded(what), w.coded(what));
        }
        due(w.name, "put of no state", x.get().put(1 << w.states), w.normal ? OUTSIDE : STATE);
        if (w.code.size() == 5) {
            due(w.name, "put of a sixth", x.get().put(0), FULL);
        }
    }

    private static void checkWanted(Words w, Asked x, int signal) {
        for (int point = -1; point <= w.points(); point++) {
            int want = !w.good() ? STATE : !w.hasSignal(signal) || point < 0 || point == w.points() ? UNKNOWN
                : w.wanted(signal, point);
            due(w.name, "wanted " + signal + " " + point, x.get().wanted(signal, point), want);
        }
    }

    private static void checkLogic(Words w, Asked x, int signal) {
        for (int what = -1; what <= 6; what++) {
            int want = !w.good() ? STATE : !w.hasSignal(signal) ? UNKNOWN
                : what < 0 || what > 5 ? OUTSIDE : w.logic(signal, what);
            due(w.name, "logic " + signal + " " + what, x.get().logic(signal, what), want);
        }
        boolean there = w.good() && w.hasSignal(signal);
        List<String> sum = there ? w.sums.get(signal) : List.of();
        List<String> wide = there ? w.wides.get(signal) : List.of();
        for (int what = -1; what <= 2; what++) {
            for (int i = -1; i <= sum.size(); i++) {
                due(w.name, "product " + signal + " " + i + " " + what, x.get().product(signal, i, what),
                    w.good() ? ofProduct(sum, i, what) : STATE);
            }
            for (int i = -1; i <= wide.size(); i++) {
                due(w.name, "wide " + signal + " " + i + " " + what, x.get().wide(signal, i, what),
                    w.good() ? ofProduct(wide, i, what) : STATE);
            }
        }
    }

    private static int ofProduct(List<String> products, int product, int what) {
        if (product < 0 || product >= products.size()) {
            return UNKNOWN;
        }
        return what < 0 || what > 1 ? OUTSIDE : what == 0 ? asked(products.get(product)) : ones(products.get(product));
    }

    /** From each state through the columns to and fro, with what each turn changed. */
    private static void checkWalks(Words w) {
        FlowCodes x = new Asked(w).get();
        due(w.name, "turn of none", x.turn(0), STATE);
        int at = NONE;
        for (int from = 0; from < w.states; from++) {
            due(w.name, "walk " + from, x.walk(from), at);
            at = from;
            int turns = 0;
            int changes = 0;
            for (int i = 0; i < 2 * w.columns; i++) {
                int column = i < w.columns ? i : 2 * w.columns - 1 - i;
                int to = w.entry(at, column);
                due(w.name, "turn " + column, x.turn(column), to == NONE ? STATE : to);
                if (to != NONE) {
                    turns++;
                    changes += w.changes(at, to);
                    at = to;
                }
            }
            due(w.name, "count 3", x.count(3), at);
            due(w.name, "count 4", x.count(4), turns);
            due(w.name, "count 5", x.count(5), changes);
        }
        due(w.name, "walk past", x.walk(w.states), UNKNOWN);
        due(w.name, "turn past", x.turn(w.columns), UNKNOWN);
        due(w.name, "walk of none", x.walk(NONE), UNKNOWN);
    }

    private static void due(String of, String call, long got, long want) {
        calls++;
        if (got != want) {
            wrong++;
            if (wrong <= 40) {
                System.out.println(of + ": " + call + " answered " + got + ", due is " + want);
            }
        }
    }

    /** An object with the table and the code; another one in its place before it had too many calls. */
    private static final class Asked {
        private final Words words;
        private FlowCodes object;
        private int left;

        Asked(Words words) {
            this.words = words;
        }

        FlowCodes get() {
            if (left == 0) {
                object = new FlowCodes();
                left = MOST_CALLS;
                for (char sign : words.text.toCharArray()) {
                    object.letter(sign);
                }
                due(words.name, "table", object.table(), words.states);
                left -= words.text.length() + 1;
                if (words.told) {
                    object.clear();
                    left -= 1 + words.code.size();
                    for (int i = 0; i < words.code.size(); i++) {
                        due(words.name, "put", object.put(words.code.get(i)), i + 1);
                    }
                }
            }
            left--;
            return object;
        }
    }

    // ---- the document's words

    /** The number of a text of bits, bit 0 first. */
    private static int number(String bits) {
        int all = 0;
        for (int i = 0; i < bits.length(); i++) {
            all += bits.charAt(i) == '1' ? (int) Math.pow(2, i) : 0;
        }
        return all;
    }

    private static String bits(int number, int size) {
        StringBuilder text = new StringBuilder();
        for (int i = 0; i < size; i++) {
            text.append(number / (int) Math.pow(2, i) % 2);
        }
        return text.toString();
    }

    /** All texts of so many signs. */
    private static List<String> all(int size, String signs) {
        List<String> texts = List.of("");
        for (int i = 0; i < size; i++) {
            List<String> longer = new ArrayList<>();
            for (String text : texts) {
                for (char sign : signs.toCharArray()) {
                    longer.add(text + sign);
                }
            }
            texts = longer;
        }
        return texts;
    }

    /** A PRODUCT is a text with 0, 1, or '-' for each BIT that is not ASKED. */
    private static int asked(String product) {
        return number(product.replace('0', '1'));
    }

    private static int ones(String product) {
        return number(product);
    }

    private static int howManyAsked(String product) {
        return product.replace("-", "").length();
    }

    private static boolean has(String product, String point) {
        for (int i = 0; i < product.length(); i++) {
            if (product.charAt(i) != '-' && product.charAt(i) != point.charAt(i)) {
                return false;
            }
        }
        return true;
    }

    private record Move(int from, int column, int to) { }

    /** Two sets of letters of STATES, that of the lesser number first. */
    private record Parting(Set<Integer> one, Set<Integer> other) {
        static Parting of(Set<Integer> one, Set<Integer> other) {
            return setNumber(one) < setNumber(other) ? new Parting(one, other) : new Parting(other, one);
        }

        boolean isLeftOutFor(Parting wider) {
            return !equals(wider) && (wider.one.containsAll(one) && wider.other.containsAll(other)
                || wider.one.containsAll(other) && wider.other.containsAll(one));
        }

        boolean isKeptBy(int signal) {
            return isAll(one, signal, 0) && isAll(other, signal, 1) || isAll(one, signal, 1) && isAll(other, signal, 0);
        }

        private static boolean isAll(Set<Integer> set, int signal, int value) {
            return set.stream().allMatch(state -> (signal >> state) % 2 == value);
        }

        static int setNumber(Set<Integer> set) {
            return set.stream().mapToInt(state -> 1 << state).sum();
        }
    }

    /** A TABLE and a CODE with all that the document says of them. */
    private static final class Words {
        final String text;
        final String name;
        final boolean told;
        final String[] rows;
        final int states;
        final int columns;
        final List<Move> moves = new ArrayList<>();
        final boolean normal;
        final List<Parting> partings = new ArrayList<>();
        final List<Integer> leastCode;
        final List<Integer> code;
        final String[] codes;
        final List<List<String>> aims = new ArrayList<>();
        final List<List<String>> wides = new ArrayList<>();
        final List<List<String>> sums = new ArrayList<>();
        final List<Integer> plain = new ArrayList<>();

        /** The code is the table's own where none is told. */
        Words(String text, List<Integer> ownCode) {
            this.text = text;
            name = text + (ownCode == null ? "" : " " + ownCode);
            told = ownCode != null;
            rows = text.split(";");
            states = rows.length;
            columns = rows[0].length();
            for (int state = 0; state < states; state++) {
                for (int column = 0; column < columns; column++) {
                    if (entry(state, column) != NONE) {
                        moves.add(new Move(state, column, entry(state, column)));
                    }
                }
            }
            normal = moves.stream().allMatch(move -> isStable(move.to, move.column));
            if (normal) {
                findPartings();
            }
            leastCode = normal ? findLeast() : List.of();
            code = told ? ownCode : leastCode;
            codes = new String[states];
            for (int state = 0; state < states; state++) {
                codes[state] = "";
                for (int signal : code) {
                    codes[state] += bits(signal, states).charAt(state);
                }
            }
            for (int signal = 0; good() && signal < code.size(); signal++) {
                findAims(signal);
                findWide(signal);
                findSum(signal);
            }
        }

        boolean hasState(int state) {
            return state >= 0 && state < states;
        }

        boolean hasColumn(int column) {
            return column >= 0 && column < columns;
        }

        boolean hasSignal(int signal) {
            return signal >= 0 && signal < code.size();
        }

        int entry(int state, int column) {
            char sign = rows[state].charAt(column);
            return sign == '-' ? NONE : sign - 'a';
        }

        boolean isStable(int state, int column) {
            return entry(state, column) == state;
        }

        int about(int what) {
            switch (what) {
                case 0: return normal ? 1 : 0;
                case 1:
                    return moves.stream().filter(move -> !isStable(move.to, move.column))
                        .mapToInt(move -> 4 * move.from + move.column).min().orElse(NONE);
                case 2: return text.replaceAll("[;-]", "").length();
                case 3: return (int) moves.stream().filter(move -> move.from == move.to).count();
                case 4: return normal ? partings.size() : NONE;
                default: return OUTSIDE;
            }
        }

        private void findPartings() {
            Set<Parting> found = new LinkedHashSet<>();
            for (Move move : moves) {
                for (Move other : moves) {
                    if (move.column == other.column && move.to != other.to) {
                        found.add(Parting.of(new TreeSet<>(Arrays.asList(move.from, move.to)),
                            new TreeSet<>(Arrays.asList(other.from, other.to))));
                    }
                }
            }
            for (int state = 0; state < states; state++) {
                for (int other = 0; other < state; other++) {
                    found.add(Parting.of(Set.of(state), Set.of(other)));
                }
            }
            for (Parting parting : found) {
                if (found.stream().noneMatch(parting::isLeftOutFor)) {
                    partings.add(parting);
                }
            }
            partings.sort(Comparator.comparing((Parting p) -> Parting.setNumber(p.one))
                .thenComparing(p -> Parting.setNumber(p.other)));
        }

        int parting(int parting, int what) {
            if (what < 0 || what > 2) {
                return OUTSIDE;
            }
            if (!normal) {
                return STATE;
            }
            if (parting < 0 || parting >= partings.size()) {
                return UNKNOWN;
            }
            Parting p = partings.get(parting);
            return what == 0 ? Parting.setNumber(p.one) : what == 1 ? Parting.setNumber(p.other)
                : (int) code.stream().filter(p::isKeptBy).count();
        }

        private int unkept(List<Integer> signals) {
            return (int) partings.stream().filter(p -> signals.stream().noneMatch(p::isKeptBy)).count();
        }

        /** All rising codes of each size in their order, until one is good. */
        private List<Integer> findLeast() {
            List<List<Integer>> ofSize = List.of(List.of());
            for (int size = 1; size <= 5; size++) {
                List<List<Integer>> longer = new ArrayList<>();
                for (List<Integer> signals : ofSize) {
                    int from = signals.isEmpty() ? 0 : signals.get(signals.size() - 1) + 2;
                    for (int signal = from; signal < 1 << states; signal += 2) {
                        List<Integer> next = new ArrayList<>(signals);
                        next.add(signal);
                        longer.add(next);
                    }
                }
                for (List<Integer> signals : longer) {
                    if (unkept(signals) == 0) {
                        return signals;
                    }
                }
                ofSize = longer;
            }
            return List.of();
        }

        int least(int signal) {
            if (signal < -1 || signal > 4) {
                return OUTSIDE;
            }
            if (!normal) {
                return STATE;
            }
            if (signal == NONE) {
                return leastCode.isEmpty() ? NONE : leastCode.size();
            }
            return signal < leastCode.size() ? leastCode.get(signal) : NONE;
        }

        boolean good() {
            return normal && unkept(code) == 0;
        }

        int changes(int from, int to) {
            int all = 0;
            for (int i = 0; i < codes[from].length(); i++) {
                all += codes[from].charAt(i) == codes[to].charAt(i) ? 0 : 1;
            }
            return all;
        }

        private boolean isOnWay(String there, Move move) {
            for (int i = 0; i < there.length(); i++) {
                char from = codes[move.from].charAt(i);
                if (from == codes[move.to].charAt(i) && from != there.charAt(i)) {
                    return false;
                }
            }
            return true;
        }

        private boolean isWild(Move move) {
            for (String there : all(code.size(), "01")) {
                for (Move other : moves) {
                    boolean elsewhere = other.column == move.column && other.to != move.to;
                    if (elsewhere && isOnWay(there, move) && isOnWay(there, other)) {
                        return true;
                    }
                }
            }
            return false;
        }

        int coded(int what) {
            if (what < 0 || what > 5) {
                return OUTSIDE;
            }
            if (!normal) {
                return STATE;
            }
            switch (what) {
                case 0: return code.size();
                case 1: return good() ? 1 : 0;
                case 2: return unkept(code);
                case 3: return (int) moves.stream().filter(this::isWild).count();
                case 4:
                    return moves.stream().filter(this::isWild)
                        .mapToInt(move -> 4 * move.from + move.column).min().orElse(NONE);
                default:
                    return moves.stream().mapToInt(move -> changes(move.from, move.to)).max().orElse(0);
            }
        }

        int bitsOfPoint() {
            return 2 + code.size();
        }

        int points() {
            return 1 << bitsOfPoint();
        }

        /** For each POINT "1", "0", or "-" where it is FREE. */
        private void findAims(int signal) {
            List<String> found = new ArrayList<>();
            for (int point = 0; point < points(); point++) {
                int column = point % 4;
                String there = bits(point / 4, code.size());
                Set<String> aim = new TreeSet<>();
                for (Move move : moves) {
                    if (move.column == column && isOnWay(there, move)) {
                        aim.add(codes[move.to].substring(signal, signal + 1));
                    }
                }
                if (aim.size() > 1) {
                    due(name, "aims at point " + point, aim.size(), 1);
                }
                found.add(aim.isEmpty() ? "-" : aim.iterator().next());
            }
            aims.add(found);
        }

        int wanted(int signal, int point) {
            String aim = aims.get(signal).get(point);
            return aim.equals("-") ? NONE : Integer.parseInt(aim);
        }

        private boolean isSo(int signal, String product) {
            boolean some = false;
            for (int point = 0; point < points(); point++) {
                if (has(product, bits(point, bitsOfPoint()))) {
                    if (wanted(signal, point) == 0) {
                        return false;
                    }
                    some |= wanted(signal, point) == 1;
                }
            }
            return some;
        }

        private boolean isWide(Set<String> so, String product) {
            for (int i = 0; i < product.length(); i++) {
                boolean isAsked = product.charAt(i) != '-';
                if (isAsked && so.contains(product.substring(0, i) + "-" + product.substring(i + 1))) {
                    return false;
                }
            }
            return so.contains(product);
        }

        private void findWide(int signal) {
            Set<String> so = new LinkedHashSet<>(all(bitsOfPoint(), "01-"));
            so.removeIf(product -> !isSo(signal, product));
            List<String> found = new ArrayList<>(so);
            found.removeIf(product -> !isWide(so, product));
            found.sort(Comparator.comparing((String p) -> asked(p)).thenComparing(p -> ones(p)));
            wides.add(found);
        }

        private void findSum(int signal) {
            List<String> sum = new ArrayList<>();
            for (int point = 0; point < points(); point++) {
                if (wanted(signal, point) == 1) {
                    comeTo(sum, signal, point, point);
                }
            }
            plain.add(sum.size());
            for (int point = 0; point < points(); point++) {
                for (int bit = 0; bit < bitsOfPoint(); bit++) {
                    int other = point + (1 << bit);
                    boolean has0 = bits(point, bitsOfPoint()).charAt(bit) == '0';
                    if (has0 && wanted(signal, point) == 1 && wanted(signal, other) == 1) {
                        comeTo(sum, signal, point, other);
                    }
                }
            }
            sums.add(sum);
        }

        private void comeTo(List<String> sum, int signal, int point, int other) {
            String one = bits(point, bitsOfPoint());
            String two = bits(other, bitsOfPoint());
            if (sum.stream().noneMatch(p -> has(p, one) && has(p, two))) {
                wides.get(signal).stream().filter(p -> has(p, one) && has(p, two))
                    .min(Comparator.comparing(SmallTablesTest::howManyAsked)).ifPresent(sum::add);
            }
        }

        int logic(int signal, int what) {
            List<String> sum = sums.get(signal);
            switch (what) {
                case 0: return wides.get(signal).size();
                case 1: return sum.size();
                case 2: return sum.size() - plain.get(signal);
                case 3: return sum.stream().mapToInt(SmallTablesTest::howManyAsked).sum();
                case 4: return Collections.frequency(aims.get(signal), "1");
                default: return Collections.frequency(aims.get(signal), "0");
            }
        }

        /** Right behind table() and, where a code is told, clear() and put(). */
        long digest() {
            List<Integer> numbers = new ArrayList<>();
            for (int state = 0; state < states; state++) {
                for (int column = 0; column < columns; column++) {
                    numbers.add(entry(state, column));
                }
            }
            for (int what = 0; what <= 4; what++) {
                numbers.add(about(what));
            }
            for (int i = 0; i < partings.size(); i++) {
                numbers.addAll(List.of(parting(i, 0), parting(i, 1), parting(i, 2)));
            }
            for (int signal = -1; normal && signal <= 4; signal++) {
                numbers.add(least(signal));
            }
            for (int state = 0; normal && state < states; state++) {
                numbers.add(number(codes[state]));
            }
            for (int what = 0; what <= 5; what++) {
                numbers.add(coded(what));
            }
            for (int signal = 0; good() && signal < code.size(); signal++) {
                for (int what = 0; what <= 5; what++) {
                    numbers.add(logic(signal, what));
                }
                for (String product : sums.get(signal)) {
                    numbers.addAll(List.of(asked(product), ones(product)));
                }
            }
            numbers.addAll(List.of(0, states, columns, NONE, 0, 0, 1));
            long h = 1667;
            for (int number : numbers) {
                h = 31 * h + number;
            }
            return h;
        }
    }
}
