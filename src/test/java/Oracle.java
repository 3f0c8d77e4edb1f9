import java.util.ArrayDeque;
import java.util.ArrayList;
import java.util.Arrays;
import java.util.Deque;
import java.util.HashMap;
import java.util.HashSet;
import java.util.List;
import java.util.Map;
import java.util.PriorityQueue;
import java.util.Set;
import java.util.TreeSet;

/**
 * The document's words as a second program: trees, words and positions one by one, nothing clever.
 * Searches for words go forward, by what the rest of the word still has to satisfy.
 */
final class Oracle {
    static final long SKIPPED = Long.MIN_VALUE;
    private static final int MAX_DEMANDS = 20000;

    private static final class Node {
        final char kind;
        final Node left;
        final Node right;

        Node(char kind, Node left, Node right) {
            this.kind = kind;
            this.left = left;
            this.right = right;
        }

        boolean isState() {
            return Character.isDigit(kind);
        }

        boolean satisfiedBy(int set) {
            switch (kind) {
                case 't':
                    return true;
                case 'f':
                    return false;
                case '&':
                    return left.satisfiedBy(set) && right.satisfiedBy(set);
                case '|':
                    return left.satisfiedBy(set) || right.satisfiedBy(set);
                default:
                    return (set >> kind - '0' & 1) == 1;
            }
        }

        int count() {
            return left == null ? 1 : 1 + left.count() + right.count();
        }

        String text() {
            if (left == null) {
                return String.valueOf(kind);
            }
            boolean leftWrapped = kind == '&' && left.kind == '|';
            boolean rightWrapped = kind == '&' && right.kind == '|' || right.kind == kind;
            return (leftWrapped ? "(" + left.text() + ")" : left.text()) + kind
                + (rightWrapped ? "(" + right.text() + ")" : right.text());
        }

        Node dual() {
            int at = "tf&|".indexOf(kind);
            char other = at < 0 ? kind : "ft|&".charAt(at);
            return left == null ? new Node(other, null, null) : new Node(other, left.dual(), right.dual());
        }

        Node shifted(int offset) {
            if (left != null) {
                return new Node(kind, left.shifted(offset), right.shifted(offset));
            }
            return isState() ? new Node((char) (kind + offset), null, null) : this;
        }

        int states() {
            if (left != null) {
                return left.states() | right.states();
            }
            return isState() ? 1 << kind - '0' : 0;
        }
    }

    private static final Node FALSE = new Node('f', null, null);

    private static final class Auto {
        int states = 1;
        int letters = 1;
        int finals = 0;
        Node initial = FALSE;
        Node[][] moves = {{FALSE}};
        int[] weights = {1};

        Auto() {
        }

        Auto(int states, int letters) {
            this.states = states;
            this.letters = letters;
            moves = new Node[states][letters];
            for (Node[] row : moves) {
                Arrays.fill(row, FALSE);
            }
            weights = new int[letters];
            Arrays.fill(weights, 1);
        }

        Auto copy() {
            Auto other = new Auto(states, letters);
            other.finals = finals;
            other.initial = initial;
            for (int p = 0; p < states; p++) {
                other.moves[p] = moves[p].clone();
            }
            other.weights = weights.clone();
            return other;
        }

        int before(int letter, int set) {
            int result = 0;
            for (int p = 0; p < states; p++) {
                if (moves[p][letter].satisfiedBy(set)) {
                    result |= 1 << p;
                }
            }
            return result;
        }

        /** The sets that satisfy the initial formula: what the empty word demands. */
        long firstDemand() {
            long demand = 0;
            for (int set = 0; set < 1 << states; set++) {
                if (initial.satisfiedBy(set)) {
                    demand |= 1L << set;
                }
            }
            return demand;
        }

        /** What is demanded of the rest of a word after one letter more. */
        long nextDemand(long demand, int letter) {
            long next = 0;
            for (int set = 0; set < 1 << states; set++) {
                if ((demand >> before(letter, set) & 1) == 1) {
                    next |= 1L << set;
                }
            }
            return next;
        }

        boolean isMet(long demand) {
            return (demand >> finals & 1) == 1;
        }
    }

    private Auto[] slots = {new Auto(), new Auto(), new Auto()};
    private Auto[] saved = null;
    private String text = "";
    private String printedText = "";
    private List<Integer> word = new ArrayList<>();
    private List<Integer> found = new ArrayList<>();
    private int cost = 0;
    private int offset;

    private static boolean bad(int slot) {
        return slot < 0 || slot > 2;
    }

    private boolean badState(int slot, int state) {
        return bad(slot) || state < 0 || state >= slots[slot].states;
    }

    private boolean badLetter(int slot, int letter) {
        return bad(slot) || letter < 0 || letter >= slots[slot].letters;
    }

    private boolean badSet(int slot, int set) {
        return bad(slot) || set < 0 || set >= 1 << slots[slot].states;
    }

    private boolean badFormula(int slot, int state, int letter) {
        return bad(slot) || state != -1 && (badState(slot, state) || badLetter(slot, letter));
    }

    private Node formula(int slot, int state, int letter) {
        return state == -1 ? slots[slot].initial : slots[slot].moves[state][letter];
    }

    private boolean mismatch(int slot) {
        for (int letter : word) {
            if (letter >= slots[slot].letters) {
                return true;
            }
        }
        return false;
    }

    int statesOf(int slot) {
        return slots[slot].states;
    }

    int lettersOf(int slot) {
        return slots[slot].letters;
    }

    int wordLength() {
        return word.size();
    }

    int foundLength() {
        return found.size();
    }

    int printedLength() {
        return printedText.length();
    }

    long create(int slot, int states, int letters) {
        if (bad(slot) || states < 1 || states > 6 || letters < 1 || letters > 3) {
            return -2;
        }
        int before = slots[slot].states;
        slots[slot] = new Auto(states, letters);
        return before;
    }

    long setFinal(int slot, int state, int isFinal) {
        if (badState(slot, state) || isFinal != 0 && isFinal != 1) {
            return -2;
        }
        Auto a = slots[slot];
        a.finals = isFinal == 1 ? a.finals | 1 << state : a.finals & ~(1 << state);
        return a.finals;
    }

    long setWeight(int slot, int letter, int weight) {
        if (badLetter(slot, letter) || weight < 1 || weight > 9) {
            return -2;
        }
        int before = slots[slot].weights[letter];
        slots[slot].weights[letter] = weight;
        return before;
    }

    long append(int code, int count) {
        if (code < 0 || code > 127 || count < 1 || count > 60) {
            return -2;
        }
        if (text.length() + count > 60) {
            return -3;
        }
        text += String.valueOf((char) code).repeat(count);
        return text.length();
    }

    long setInitial(int slot) {
        Node node = bad(slot) ? null : parse(slots[slot].states);
        long answer = bad(slot) ? -2 : judge(node);
        if (answer > 0) {
            slots[slot].initial = node;
        }
        text = "";
        return answer;
    }

    long setTransition(int slot, int state, int letter) {
        boolean wrong = badState(slot, state) || badLetter(slot, letter);
        Node node = wrong ? null : parse(slots[slot].states);
        long answer = wrong ? -2 : judge(node);
        if (answer > 0) {
            slots[slot].moves[state][letter] = node;
        }
        text = "";
        return answer;
    }

    private long judge(Node node) {
        if (node == null) {
            return -100 - offset;
        }
        return node.count() > 40 ? -3 : node.count();
    }

    private Node parse(int states) {
        offset = 0;
        Node node = parseFormula(states);
        return node != null && offset < text.length() ? null : node;
    }

    private boolean sees(char sign) {
        return offset < text.length() && text.charAt(offset) == sign;
    }

    private Node parseFormula(int states) {
        Node node = parseTerm(states);
        while (node != null && sees('|')) {
            offset++;
            Node right = parseTerm(states);
            node = right == null ? null : new Node('|', node, right);
        }
        return node;
    }

    private Node parseTerm(int states) {
        Node node = parseFactor(states);
        while (node != null && sees('&')) {
            offset++;
            Node right = parseFactor(states);
            node = right == null ? null : new Node('&', node, right);
        }
        return node;
    }

    private Node parseFactor(int states) {
        if (sees('(')) {
            offset++;
            Node node = parseFormula(states);
            if (node == null || !sees(')')) {
                return null;
            }
            offset++;
            return node;
        }
        if (offset >= text.length()) {
            return null;
        }
        char sign = text.charAt(offset);
        if (sign != 't' && sign != 'f' && (sign < '0' || sign >= '0' + states)) {
            return null;
        }
        offset++;
        return new Node(sign, null, null);
    }

    long property(int slot, int what) {
        if (bad(slot) || what < 0 || what > 5) {
            return -2;
        }
        Auto a = slots[slot];
        if (what < 3) {
            return new int[] {a.states, a.letters, a.finals}[what];
        }
        return what - 3 < a.letters ? a.weights[what - 3] : -1;
    }

    long print(int slot, int state, int letter) {
        if (badFormula(slot, state, letter)) {
            return -2;
        }
        printedText = formula(slot, state, letter).text();
        return printedText.length();
    }

    long printed(int index) {
        return index < 0 || index >= printedText.length() ? -1 : printedText.charAt(index);
    }

    long isSatisfied(int slot, int state, int letter, int set) {
        if (badFormula(slot, state, letter) || badSet(slot, set)) {
            return -2;
        }
        return formula(slot, state, letter).satisfiedBy(set) ? 1 : 0;
    }

    private static List<Integer> minimalModels(List<Node> conjuncts, int states) {
        List<Integer> models = new ArrayList<>();
        for (int set = 0; set < 1 << states; set++) {
            boolean minimal = allSatisfied(conjuncts, set);
            for (int smaller = 0; smaller < set && minimal; smaller++) {
                minimal = (smaller & ~set) != 0 || !allSatisfied(conjuncts, smaller);
            }
            if (minimal) {
                models.add(set);
            }
        }
        models.sort((a, b) -> Integer.bitCount(a) != Integer.bitCount(b)
            ? Integer.bitCount(a) - Integer.bitCount(b) : a - b);
        return models;
    }

    private static boolean allSatisfied(List<Node> conjuncts, int set) {
        for (Node node : conjuncts) {
            if (!node.satisfiedBy(set)) {
                return false;
            }
        }
        return true;
    }

    long model(int slot, int state, int letter, int position) {
        if (badFormula(slot, state, letter) || position < -1) {
            return -2;
        }
        List<Integer> models = minimalModels(List.of(formula(slot, state, letter)), slots[slot].states);
        if (position == -1) {
            return models.size();
        }
        return position < models.size() ? models.get(position) : -1;
    }

    long push(int letter) {
        if (letter < 0 || letter > 2) {
            return -2;
        }
        if (word.size() == 12) {
            return -3;
        }
        word.add(letter);
        return word.size();
    }

    long clearWord() {
        int before = word.size();
        word = new ArrayList<>();
        return before;
    }

    private int acceptedFrom(int slot, int start) {
        if (start == word.size()) {
            return slots[slot].finals;
        }
        return slots[slot].before(word.get(start), acceptedFrom(slot, start + 1));
    }

    long acceptingStates(int slot, int start) {
        if (bad(slot) || start < 0 || start > word.size()) {
            return -2;
        }
        return mismatch(slot) ? -4 : acceptedFrom(slot, start);
    }

    long accepts(int slot) {
        if (bad(slot)) {
            return -2;
        }
        if (mismatch(slot)) {
            return -4;
        }
        return slots[slot].initial.satisfiedBy(acceptedFrom(slot, 0)) ? 1 : 0;
    }

    private static final class Position {
        char kind;
        int state = -1;
        Position left;
        Position right;
        /** By player, 0 for the automaton; -1 where that player cannot force a win. */
        final int[] ranks = {-1, -1};
    }

    /** All positions with their ranks: W_k holds the positions from which a win within k moves can be forced. */
    private Position[][] solve(int slot, List<Position> all) {
        Auto a = slots[slot];
        int n = word.size();
        Position[][] grid = new Position[n + 1][a.states];
        for (int i = 0; i <= n; i++) {
            for (int p = 0; p < a.states; p++) {
                grid[i][p] = new Position();
                grid[i][p].state = p;
                grid[i][p].kind = i < n ? '>' : (a.finals >> p & 1) == 1 ? 't' : 'f';
                all.add(grid[i][p]);
            }
        }
        for (int i = 0; i < n; i++) {
            for (int p = 0; p < a.states; p++) {
                grid[i][p].left = lay(a.moves[p][word.get(i)], grid[i + 1], all);
            }
        }
        for (int player = 0; player < 2; player++) {
            rankAll(all, player);
        }
        return grid;
    }

    private static Position lay(Node node, Position[] after, List<Position> all) {
        if (node.isState()) {
            return after[node.kind - '0'];
        }
        Position position = new Position();
        position.kind = node.kind;
        all.add(position);
        if (node.left != null) {
            position.left = lay(node.left, after, all);
            position.right = lay(node.right, after, all);
        }
        return position;
    }

    private static void rankAll(List<Position> all, int player) {
        char won = player == 0 ? 't' : 'f';
        char own = player == 0 ? '|' : '&';
        int quiet = 0;
        for (int k = 0; quiet < 2; k++) {
            List<Position> fresh = new ArrayList<>();
            for (Position x : all) {
                if (x.ranks[player] < 0 && isForced(x, player, won, own)) {
                    fresh.add(x);
                }
            }
            for (Position x : fresh) {
                x.ranks[player] = k;
            }
            quiet = fresh.isEmpty() ? quiet + 1 : 0;
        }
    }

    private static boolean isForced(Position x, int player, char won, char own) {
        if (x.left == null) {
            return x.kind == won;
        }
        boolean left = x.left.ranks[player] >= 0;
        if (x.right == null) {
            return left;
        }
        boolean right = x.right.ranks[player] >= 0;
        return x.kind == own ? left || right : left && right;
    }

    long rank(int slot, int start, int state) {
        if (badState(slot, state) || start < 0 || start > word.size()) {
            return -2;
        }
        if (mismatch(slot)) {
            return -4;
        }
        Position x = solve(slot, new ArrayList<>())[start][state];
        return x.ranks[0] >= 0 ? x.ranks[0] : 10000 + x.ranks[1];
    }

    long strategy(int slot, int start, int state) {
        if (badState(slot, state) || start < 0 || start >= word.size()) {
            return -2;
        }
        if (mismatch(slot)) {
            return -4;
        }
        Position[][] grid = solve(slot, new ArrayList<>());
        Position x = grid[start][state];
        if (x.ranks[0] < 0) {
            return -1;
        }
        return follow(x.left);
    }

    private static int follow(Position x) {
        if (x.state >= 0) {
            return 1 << x.state;
        }
        if (x.left == null) {
            return 0;
        }
        if (x.kind == '&') {
            return follow(x.left) | follow(x.right);
        }
        int left = x.left.ranks[0];
        int right = x.right.ranks[0];
        return left >= 0 && (right < 0 || left <= right) ? follow(x.left) : follow(x.right);
    }

    long reverseStep(int slot, int letter, int set) {
        return badLetter(slot, letter) || badSet(slot, set) ? -2 : slots[slot].before(letter, set);
    }

    private static Set<Integer> reverseReach(Auto a) {
        Set<Integer> reached = new TreeSet<>();
        Deque<Integer> open = new ArrayDeque<>();
        reached.add(a.finals);
        open.add(a.finals);
        while (!open.isEmpty()) {
            int set = open.remove();
            for (int x = 0; x < a.letters; x++) {
                if (reached.add(a.before(x, set))) {
                    open.add(a.before(x, set));
                }
            }
        }
        return reached;
    }

    long reverseStates(int slot) {
        return bad(slot) ? -2 : reverseReach(slots[slot]).size();
    }

    long reverseClasses(int slot) {
        if (bad(slot)) {
            return -2;
        }
        List<Integer> chosen = new ArrayList<>();
        for (int set : reverseReach(slots[slot])) {
            boolean isNew = true;
            for (int other : chosen) {
                isNew &= isToldApart(slots[slot], set, other);
            }
            if (isNew) {
                chosen.add(set);
            }
        }
        return chosen.size();
    }

    private static boolean isToldApart(Auto a, int one, int other) {
        Set<Integer> seen = new HashSet<>();
        Deque<Integer> open = new ArrayDeque<>();
        open.add(one * 64 + other);
        while (!open.isEmpty()) {
            int pair = open.remove();
            if (!seen.add(pair)) {
                continue;
            }
            if (a.initial.satisfiedBy(pair / 64) != a.initial.satisfiedBy(pair % 64)) {
                return true;
            }
            for (int x = 0; x < a.letters; x++) {
                open.add(a.before(x, pair / 64) * 64 + a.before(x, pair % 64));
            }
        }
        return false;
    }

    private static Set<Integer> existentialNext(Auto a, Set<Integer> sets, int letter) {
        Set<Integer> next = new TreeSet<>();
        for (int set : sets) {
            List<Node> conjuncts = new ArrayList<>();
            for (int p = 0; p < a.states; p++) {
                if ((set >> p & 1) == 1) {
                    conjuncts.add(a.moves[p][letter]);
                }
            }
            next.addAll(minimalModels(conjuncts, a.states));
        }
        return next;
    }

    long existentialStates(int slot) {
        if (bad(slot)) {
            return -2;
        }
        Auto a = slots[slot];
        Set<Integer> reached = new TreeSet<>(minimalModels(List.of(a.initial), a.states));
        int before = -1;
        while (before != reached.size()) {
            before = reached.size();
            for (int x = 0; x < a.letters; x++) {
                reached.addAll(existentialNext(a, reached, x));
            }
        }
        return reached.size();
    }

    long existentialSets(int slot, int accepting) {
        if (bad(slot) || accepting != 0 && accepting != 1) {
            return -2;
        }
        if (mismatch(slot)) {
            return -4;
        }
        Auto a = slots[slot];
        Set<Integer> sets = new TreeSet<>(minimalModels(List.of(a.initial), a.states));
        for (int letter : word) {
            sets = existentialNext(a, sets, letter);
        }
        int count = 0;
        for (int set : sets) {
            count += accepting == 0 || (set | a.finals) == a.finals ? 1 : 0;
        }
        return count;
    }

    long relevantStates(int slot) {
        if (bad(slot)) {
            return -2;
        }
        Auto a = slots[slot];
        int set = a.initial.states();
        for (int times = 0; times < 6; times++) {
            for (int p = 0; p < a.states; p++) {
                for (int x = 0; x < a.letters && (set >> p & 1) == 1; x++) {
                    set |= a.moves[p][x].states();
                }
            }
        }
        return set;
    }

    private static int costOf(Auto a, List<Integer> letters) {
        int sum = 0;
        for (int letter : letters) {
            sum += a.weights[letter];
        }
        return sum;
    }

    private static int compareWords(List<Integer> one, List<Integer> other) {
        if (one.size() != other.size()) {
            return one.size() - other.size();
        }
        for (int i = 0; i < one.size(); i++) {
            if (!one.get(i).equals(other.get(i))) {
                return one.get(i) - other.get(i);
            }
        }
        return 0;
    }

    private static List<Integer> longer(List<Integer> letters, int letter) {
        List<Integer> result = new ArrayList<>(letters);
        result.add(letter);
        return result;
    }

    private static final class Try {
        final List<Integer> letters;
        final long one;
        final long other;
        final int cost;

        Try(List<Integer> letters, long one, long other, int cost) {
            this.letters = letters;
            this.one = one;
            this.other = other;
            this.cost = cost;
        }
    }

    long findCheapest(int slot) {
        if (bad(slot)) {
            return -2;
        }
        Auto a = slots[slot];
        PriorityQueue<Try> open = new PriorityQueue<>((x, y) ->
            x.cost != y.cost ? x.cost - y.cost : compareWords(x.letters, y.letters));
        open.add(new Try(new ArrayList<>(), a.firstDemand(), 0, 0));
        Set<Long> seen = new HashSet<>();
        while (!open.isEmpty()) {
            Try best = open.remove();
            if (!seen.add(best.one)) {
                continue;
            }
            if (seen.size() > MAX_DEMANDS) {
                return SKIPPED;
            }
            if (a.isMet(best.one)) {
                found = best.letters;
                cost = costOf(a, found);
                return found.size();
            }
            for (int x = 0; x < a.letters; x++) {
                open.add(new Try(longer(best.letters, x), a.nextDemand(best.one, x), 0, best.cost + a.weights[x]));
            }
        }
        return -1;
    }

    /** The first word that tells two automata apart, or null; a word of one letter 9 if the search was given up. */
    private List<Integer> tellApart(Auto a, Auto b, boolean oneSided) {
        Deque<Try> open = new ArrayDeque<>();
        open.add(new Try(new ArrayList<>(), a.firstDemand(), b.firstDemand(), 0));
        Set<List<Long>> seen = new HashSet<>();
        while (!open.isEmpty()) {
            Try next = open.remove();
            if (!seen.add(List.of(next.one, next.other))) {
                continue;
            }
            if (seen.size() > MAX_DEMANDS) {
                return List.of(9);
            }
            if (a.isMet(next.one) != b.isMet(next.other) && (!oneSided || a.isMet(next.one))) {
                return next.letters;
            }
            for (int x = 0; x < a.letters; x++) {
                open.add(new Try(longer(next.letters, x), a.nextDemand(next.one, x), b.nextDemand(next.other, x), 0));
            }
        }
        return null;
    }

    long findDifference(int one, int other) {
        if (bad(one) || bad(other)) {
            return -2;
        }
        if (slots[one].letters != slots[other].letters) {
            return -4;
        }
        List<Integer> letters = tellApart(slots[one], slots[other], false);
        if (letters == null) {
            return -1;
        }
        if (letters.contains(9)) {
            return SKIPPED;
        }
        found = letters;
        cost = costOf(slots[one], found);
        return found.size();
    }

    long foundLetter(int index) {
        return index < 0 || index >= found.size() ? -1 : found.get(index);
    }

    long foundCost() {
        return cost;
    }

    long isContained(int one, int other) {
        if (bad(one) || bad(other)) {
            return -2;
        }
        if (slots[one].letters != slots[other].letters) {
            return -4;
        }
        List<Integer> letters = tellApart(slots[one], slots[other], true);
        if (letters != null && letters.contains(9)) {
            return SKIPPED;
        }
        return letters == null ? 1 : 0;
    }

    long countWords(int slot, int length) {
        if (bad(slot) || length < 0 || length > 20) {
            return -1;
        }
        Auto a = slots[slot];
        Map<Long, Long> counts = new HashMap<>();
        counts.put(a.firstDemand(), 1L);
        for (int i = 0; i < length; i++) {
            Map<Long, Long> next = new HashMap<>();
            for (Map.Entry<Long, Long> entry : counts.entrySet()) {
                for (int x = 0; x < a.letters; x++) {
                    next.merge(a.nextDemand(entry.getKey(), x), entry.getValue(), Long::sum);
                }
            }
            counts = next;
            if (counts.size() > MAX_DEMANDS) {
                return SKIPPED;
            }
        }
        long sum = 0;
        for (Map.Entry<Long, Long> entry : counts.entrySet()) {
            sum += a.isMet(entry.getKey()) ? entry.getValue() : 0;
        }
        return sum;
    }

    long dualize(int slot, int target) {
        if (bad(slot) || bad(target)) {
            return -2;
        }
        Auto a = slots[slot].copy();
        a.initial = a.initial.dual();
        for (Node[] row : a.moves) {
            for (int x = 0; x < row.length; x++) {
                row[x] = row[x].dual();
            }
        }
        a.finals = (1 << a.states) - 1 - a.finals;
        slots[target] = a;
        return a.finals;
    }

    long combine(int one, int other, int target, int operation) {
        if (bad(one) || bad(other) || bad(target) || operation != 0 && operation != 1) {
            return -2;
        }
        Auto a = slots[one];
        Auto b = slots[other];
        if (a.letters != b.letters) {
            return -4;
        }
        if (a.states + b.states > 6 || a.initial.count() + b.initial.count() + 1 > 40) {
            return -3;
        }
        Auto c = new Auto(a.states + b.states, a.letters);
        c.initial = new Node(operation == 0 ? '|' : '&', a.initial, b.initial.shifted(a.states));
        c.finals = a.finals + (b.finals << a.states);
        c.weights = a.weights.clone();
        for (int p = 0; p < c.states; p++) {
            for (int x = 0; x < c.letters; x++) {
                c.moves[p][x] = p < a.states ? a.moves[p][x] : b.moves[p - a.states][x].shifted(a.states);
            }
        }
        slots[target] = c;
        return c.states;
    }

    private static int total(Auto[] automata) {
        return automata[0].states + automata[1].states + automata[2].states;
    }

    private static Auto[] copies(Auto[] automata) {
        return new Auto[] {automata[0].copy(), automata[1].copy(), automata[2].copy()};
    }

    long save() {
        saved = copies(slots);
        return total(saved);
    }

    long restore() {
        if (saved == null) {
            return -5;
        }
        slots = copies(saved);
        return total(slots);
    }
}
