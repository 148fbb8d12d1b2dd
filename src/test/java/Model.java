import java.time.DateTimeException;
import java.time.LocalDate;
import java.time.temporal.ChronoUnit;
import java.util.ArrayList;
import java.util.Arrays;
import java.util.HashMap;
import java.util.List;
import java.util.Map;
import java.util.TreeMap;
import java.util.TreeSet;

/** The document once more, written another way (with the library's help), to compare the class with. */
final class Model {
    /** A fault of a text, thrown from wherever it is met. */
    private static final class Fault extends RuntimeException {
        private static final long serialVersionUID = 1L;
        final int answer;

        Fault(int number, int at) {
            super(null, null, false, false);
            answer = -1000 * number - at;
        }
    }

    /** What is divided by 0. */
    private static final class Refused extends RuntimeException {
        private static final long serialVersionUID = 1L;

        Refused() {
            super(null, null, false, false);
        }
    }

    private static final class Knight {
        int place;
        int wolfDays;
        String kind = "man";
        Integer clothes;

        Knight copy() {
            Knight other = new Knight();
            other.place = place;
            other.wolfDays = wolfDays;
            other.kind = kind;
            other.clothes = clothes;
            return other;
        }

        boolean lives() {
            return !kind.equals("dead");
        }
    }

    private static final class State {
        final TreeMap<Integer, Knight> knights = new TreeMap<>();
        int day;
        int x = 1;
        int deaths;
        int toWolf;
        int toMan;
        int taken;
        final List<Integer> died = new ArrayList<>();

        State copy() {
            State other = new State();
            knights.forEach((k, knight) -> other.knights.put(k, knight.copy()));
            other.day = day;
            other.x = x;
            return other;
        }
    }

    private interface Sum {
        int of(Map<Character, Integer> letters);
    }

    private interface Test {
        boolean of(Map<Character, Integer> letters);
    }

    private static final class Rule {
        char kind;
        Sum sum;
        Test test;
    }

    private final TreeSet<Integer> places = new TreeSet<>();
    private final TreeMap<Integer, TreeSet<Integer>> nexts = new TreeMap<>();
    private final Map<Integer, String> hunts = new HashMap<>();
    private State now = new State();
    private State kept;
    private List<Rule> rules = new ArrayList<>();
    private int firstWeekday;
    private final List<Integer> tape = new ArrayList<>();

    private static boolean in(int x, int least, int most) {
        return least <= x && x <= most;
    }

    private String take(int n) {
        StringBuilder text = new StringBuilder();
        for (int i = 0; i < n; i++) {
            text.append((char) (int) tape.get(i));
        }
        tape.clear();
        return text.toString();
    }

    // ---- what is told ----

    boolean place(int p) {
        if (!in(p, 0, 11)) {
            return false;
        }
        places.add(p);
        nexts.putIfAbsent(p, new TreeSet<>());
        return true;
    }

    boolean next(int p, int q, boolean is) {
        if (p == q || !places.contains(p) || !places.contains(q)) {
            return false;
        }
        if (is) {
            nexts.get(p).add(q);
            nexts.get(q).add(p);
        } else {
            nexts.get(p).remove(q);
            nexts.get(q).remove(p);
        }
        return true;
    }

    boolean knight(int k, int p, int wolfDays) {
        if (!in(k, 0, 8) || !places.contains(p) || !in(wolfDays, 0, 127)) {
            return false;
        }
        Knight knight = new Knight();
        knight.place = p;
        knight.wolfDays = wolfDays;
        now.knights.put(k, knight);
        return true;
    }

    boolean first(int weekday) {
        if (!in(weekday, 0, 6)) {
            return false;
        }
        firstWeekday = weekday;
        return true;
    }

    int feed(int a, int b, int c, int d, int e) {
        if (tape.size() > 240) {
            return -1;
        }
        for (int word : new int[] {a, b, c, d, e}) {
            tape.add(word >>> 24);
            tape.add(word >> 16 & 0xff);
            tape.add(word >> 8 & 0xff);
            tape.add(word & 0xff);
        }
        return tape.size();
    }

    boolean seed(int x) {
        if (!in(x, 0, 65535)) {
            return false;
        }
        now.x = x;
        return true;
    }

    // ---- hunts: the text is written out as it is read ----

    private static final class HuntText {
        final String text;
        int at;
        final StringBuilder out = new StringBuilder();

        HuntText(String text) {
            this.text = text;
        }

        char peek() {
            return at < text.length() ? text.charAt(at) : '\uffff';
        }

        void days(int open) {
            do {
                int start = at;
                int from = out.length();
                int times = 1;
                if (in(peek(), '2', '9')) {
                    times = peek() - '0';
                    at++;
                }
                char c = peek();
                if (c == '(' && open == 2) {
                    throw new Fault(5, at);
                } else if (c == '(') {
                    at++;
                    days(open + 1);
                    if (peek() != ')') {
                        throw new Fault(1, at);
                    }
                    at++;
                } else if (c == 'h' || c == '.') {
                    out.append(c);
                    at++;
                } else {
                    throw new Fault(1, at);
                }
                String part = out.substring(from);
                out.append(part.repeat(times - 1));
                if (out.length() > 48) {
                    throw new Fault(6, start);
                }
            } while (at < text.length() && peek() != ')');
        }
    }

    int hunts(int p, int n) {
        if (!in(p, 0, 11) || !in(n, 1, 40) || tape.size() < n) {
            return -1;
        }
        HuntText reader = new HuntText(take(n));
        try {
            reader.days(0);
            if (reader.at < reader.text.length()) {
                throw new Fault(1, reader.at);
            }
        } catch (Fault fault) {
            return fault.answer;
        }
        hunts.put(p, reader.out.toString());
        return reader.out.length();
    }

    private boolean isHunted(int p, int day) {
        String text = hunts.getOrDefault(p, ".");
        return text.charAt(day % text.length()) == 'h';
    }

    // ---- diary ----

    int diary(int n) {
        if (!in(n, 1, 120) || tape.size() < n) {
            return -1;
        }
        String text = take(n);
        State draft = now.copy();
        int lines = 0;
        int at = 0;
        try {
            while (true) {
                char letter = at < n ? text.charAt(at) : 0;
                if (!in(letter, 'a', 'i')) {
                    throw new Fault(1, at);
                }
                if (lines == 20) {
                    throw new Fault(4, at);
                }
                Knight knight = draft.knights.get(letter - 'a');
                if (knight == null || !knight.lives()) {
                    throw new Fault(7, at);
                }
                lines++;
                at = diaryDeed(text, at + 1, knight);
                if (at == n) {
                    break;
                }
                if (text.charAt(at) != ';') {
                    throw new Fault(1, at);
                }
                at++;
            }
        } catch (Fault fault) {
            return fault.answer;
        }
        now = draft;
        return lines;
    }

    private int diaryDeed(String text, int at, Knight knight) {
        char sign = at < text.length() ? text.charAt(at) : 0;
        boolean isMan = knight.kind.equals("man");
        switch (sign) {
            case '+':
                if (!isMan) {
                    throw new Fault(9, at);
                }
                knight.kind = "wolf";
                knight.clothes = knight.place;
                return at + 1;
            case '-':
                if (isMan) {
                    throw new Fault(9, at);
                }
                knight.kind = "man";
                knight.clothes = null;
                return at + 1;
            case '@':
            case '>':
                if (sign == '@' && isMan) {
                    throw new Fault(9, at);
                }
                int end = at + 1;
                while (end < text.length() && in(text.charAt(end), '0', '9')) {
                    if (end == at + 3) {
                        throw new Fault(2, end);
                    }
                    end++;
                }
                if (end == at + 1) {
                    throw new Fault(1, end);
                }
                int p = Integer.parseInt(text.substring(at + 1, end));
                if (!places.contains(p)) {
                    throw new Fault(7, at + 1);
                }
                if (sign == '@') {
                    knight.clothes = p;
                } else {
                    knight.place = p;
                }
                return end;
            default:
                throw new Fault(1, at);
        }
    }

    // ---- law ----

    private static final class LawText {
        final String text;
        int at;

        LawText(String text) {
            this.text = text;
        }

        char peek() {
            return at < text.length() ? text.charAt(at) : '\uffff';
        }

        boolean at(String signs) {
            return signs.indexOf(peek()) >= 0;
        }

        void must(char c) {
            if (peek() != c) {
                throw new Fault(1, at);
            }
            at++;
        }

        void opens(int open) {
            if (open == 6) {
                throw new Fault(5, at);
            }
            at++;
        }

        List<Rule> rules() {
            List<Rule> all = new ArrayList<>();
            while (true) {
                if (!at("ehs")) {
                    throw new Fault(1, at);
                }
                if (all.size() == 16) {
                    throw new Fault(4, at);
                }
                Rule rule = new Rule();
                rule.kind = text.charAt(at++);
                if (rule.kind != 's') {
                    rule.sum = sum(0);
                }
                must('(');
                rule.test = anyPart(1);
                must(')');
                all.add(rule);
                if (at == text.length()) {
                    return all;
                }
                must(';');
            }
        }

        Test anyPart(int open) {
            Test left = part(open);
            while (at("|")) {
                at++;
                Test before = left;
                Test right = part(open);
                left = letters -> before.of(letters) || right.of(letters);
            }
            return left;
        }

        Test part(int open) {
            Test left = test(open);
            while (at("&")) {
                at++;
                Test before = left;
                Test right = test(open);
                left = letters -> before.of(letters) && right.of(letters);
            }
            return left;
        }

        Test test(int open) {
            if (at("!")) {
                opens(open);
                Test inner = test(open + 1);
                return letters -> !inner.of(letters);
            }
            if (at("(")) {
                opens(open);
                Test inner = anyPart(open + 1);
                must(')');
                return inner;
            }
            Sum left = sum(open);
            if (!at("<>=")) {
                throw new Fault(1, at);
            }
            char sign = text.charAt(at++);
            Sum right = sum(open);
            return letters -> {
                int order = Integer.compare(left.of(letters), right.of(letters));
                return sign == '<' ? order < 0 : sign == '>' ? order > 0 : order == 0;
            };
        }

        Sum sum(int open) {
            Sum left = term(open);
            while (at("+-")) {
                boolean plus = text.charAt(at++) == '+';
                Sum before = left;
                Sum right = term(open);
                left = letters -> (int) (plus ? (long) before.of(letters) + right.of(letters)
                        : (long) before.of(letters) - right.of(letters));
            }
            return left;
        }

        Sum term(int open) {
            Sum left = factor(open);
            while (at("*/%")) {
                char sign = text.charAt(at++);
                Sum before = left;
                Sum right = factor(open);
                left = letters -> {
                    long a = before.of(letters);
                    long b = right.of(letters);
                    if (sign != '*' && b == 0) {
                        throw new Refused();
                    }
                    return (int) (sign == '*' ? a * b : sign == '/' ? a / b : a % b);
                };
            }
            return left;
        }

        Sum factor(int open) {
            if (at("[")) {
                opens(open);
                Sum inner = sum(open + 1);
                must(']');
                return inner;
            }
            if (at("kpnjfowt")) {
                char letter = text.charAt(at++);
                return letters -> letters.get(letter);
            }
            int start = at;
            while (in(peek(), '0', '9')) {
                if (at == start + 5) {
                    throw new Fault(2, at);
                }
                at++;
            }
            if (at == start) {
                throw new Fault(1, at);
            }
            int value = Integer.parseInt(text.substring(start, at));
            return letters -> value;
        }
    }

    int law(int n) {
        if (!in(n, 1, 240) || tape.size() < n) {
            return -1;
        }
        try {
            rules = new LawText(take(n)).rules();
            return rules.size();
        } catch (Fault fault) {
            return fault.answer;
        }
    }

    private Map<Character, Integer> lettersFor(State state, int k, int p) {
        Knight knight = state.knights.get(k);
        Map<Character, Integer> letters = new HashMap<>();
        letters.put('k', k);
        letters.put('p', p);
        letters.put('n', knight.place);
        letters.put('j', knight.clothes == null ? 99 : steps(p, knight.clothes));
        letters.put('f', isHunted(p, state.day) ? 1 : 0);
        int others = 0;
        for (Map.Entry<Integer, Knight> other : state.knights.entrySet()) {
            if (other.getKey() != k && other.getValue().lives() && other.getValue().place == p) {
                others++;
            }
        }
        letters.put('o', others);
        letters.put('w', weekdayOf(state.day));
        letters.put('t', state.day % 100);
        return letters;
    }

    private static boolean holds(Rule rule, Map<Character, Integer> letters) {
        try {
            return rule.test.of(letters);
        } catch (Refused refused) {
            return false;
        }
    }

    private int worth(char kind, Map<Character, Integer> letters, int most) {
        for (Rule rule : rules) {
            if (rule.kind == kind && holds(rule, letters)) {
                try {
                    int value = rule.sum.of(letters);
                    return value < 0 ? 0 : value > most ? most : value;
                } catch (Refused refused) {
                    return 0;
                }
            }
        }
        return 0;
    }

    // ---- places ----

    private Map<Integer, Integer> allSteps(int from) {
        Map<Integer, Integer> far = new TreeMap<>();
        List<Integer> queue = new ArrayList<>(List.of(from));
        far.put(from, 0);
        for (int i = 0; i < queue.size(); i++) {
            for (int q : nexts.get(queue.get(i))) {
                if (far.putIfAbsent(q, far.get(queue.get(i)) + 1) == null) {
                    queue.add(q);
                }
            }
        }
        return far;
    }

    private int steps(int p, int q) {
        return allSteps(p).getOrDefault(q, 99);
    }

    private int weekdayOf(int day) {
        return ((day + firstWeekday) % 7 + 7) % 7;
    }

    private static boolean bit(int bits, int i) {
        return (bits & 1 << i) != 0;
    }

    // ---- day by day ----

    private void aDay(State state) {
        if (state.day >= 9999) {
            return;
        }
        int weekday = weekdayOf(state.day);
        for (Map.Entry<Integer, Knight> entry : state.knights.entrySet()) {
            int k = entry.getKey();
            Knight knight = entry.getValue();
            if (!knight.lives()) {
                continue;
            }
            if (knight.kind.equals("man") && bit(knight.wolfDays, weekday)) {
                knight.kind = "wolf";
                knight.clothes = knight.place;
                state.toWolf++;
            }
            if (knight.kind.equals("wolf")) {
                wolfDay(state, k, knight, weekday);
            }
        }
        state.day++;
    }

    private void wolfDay(State state, int k, Knight knight, int weekday) {
        int best = 0;
        int goal = knight.place;
        for (int p : nexts.get(knight.place)) {
            int liked = worth('e', lettersFor(state, k, p), 9999);
            if (liked > best) {
                best = liked;
                goal = p;
            }
        }
        knight.place = goal;
        if (isHunted(goal, state.day)) {
            Map<Character, Integer> letters = lettersFor(state, k, goal);
            if (rules.stream().noneMatch(rule -> rule.kind == 's' && holds(rule, letters))) {
                knight.kind = "dead";
                state.died.add(k);
                state.deaths++;
            }
        }
        if (knight.kind.equals("wolf") && !bit(knight.wolfDays, weekday) && knight.clothes == goal) {
            knight.kind = "man";
            knight.clothes = null;
            state.toMan++;
        }
        if (!knight.kind.equals("man")) {
            int tenths = worth('h', lettersFor(state, k, knight.clothes), 10);
            state.x = (25173 * state.x + 13849) % 65536;
            if (state.x % 10 < tenths && !nexts.get(knight.clothes).isEmpty()) {
                knight.clothes = nexts.get(knight.clothes).first();
                state.taken++;
            }
        }
    }

    int days(int n) {
        if (!in(n, 1, 240)) {
            return -1;
        }
        now.deaths = 0;
        for (int i = 0; i < n; i++) {
            aDay(now);
        }
        return now.deaths;
    }

    private static int kindNumber(Knight knight) {
        return List.of("man", "wolf", "dead").indexOf(knight.kind);
    }

    int tried(int n, int what) {
        boolean place = in(what, 10, 18) && now.knights.containsKey(what - 10);
        boolean kind = in(what, 20, 28) && now.knights.containsKey(what - 20);
        if (!in(n, 1, 240) || !(in(what, 0, 3) || place || kind)) {
            return -1;
        }
        State state = now.copy();
        for (int i = 0; i < n; i++) {
            aDay(state);
        }
        if (place) {
            return state.knights.get(what - 10).place;
        }
        if (kind) {
            return kindNumber(state.knights.get(what - 20));
        }
        return new int[] {state.deaths, state.toWolf, state.toMan, state.taken}[what];
    }

    int knightIs(int k, int what) {
        Knight knight = now.knights.get(k);
        if (knight == null || !in(what, 0, 4)) {
            return -1;
        }
        return switch (what) {
            case 0 -> knight.place;
            case 1 -> knight.wolfDays;
            case 2 -> kindNumber(knight);
            case 3 -> knight.clothes == null ? -2 : knight.clothes;
            default -> knight.clothes == null ? 99 : steps(knight.place, knight.clothes);
        };
    }

    int hunted(int p, int t) {
        if (!in(p, 0, 11) || !in(t, 0, 9999)) {
            return -1;
        }
        return isHunted(p, now.day + t) ? 1 : 0;
    }

    int likes(int k, int p) {
        Knight knight = now.knights.get(k);
        if (knight == null || !knight.lives() || !places.contains(p)) {
            return -1;
        }
        return worth('e', lettersFor(now, k, p), 9999);
    }

    int manAgain(int k, int n) {
        Knight knight = now.knights.get(k);
        if (knight == null || !in(n, 1, 240)) {
            return -1;
        }
        if (!knight.kind.equals("wolf")) {
            return -3;
        }
        State state = now.copy();
        for (int i = 1; i <= n; i++) {
            aDay(state);
            if (state.knights.get(k).kind.equals("man")) {
                return i;
            }
        }
        return -2;
    }

    int deadFirst(int n, int what) {
        if (!in(n, 1, 240) || !in(what, 0, 1)) {
            return -1;
        }
        State state = now.copy();
        for (int i = 1; i <= n; i++) {
            aDay(state);
            if (!state.died.isEmpty()) {
                return what == 0 ? state.died.stream().min(Integer::compare).get() : i;
            }
        }
        return -2;
    }

    // ---- ways: home by whole rows, the least row of each place kept ----

    int home(int k, int what) {
        Knight knight = now.knights.get(k);
        if (knight == null || !(in(what, 0, 59) || what == 100)) {
            return -1;
        }
        if (!knight.kind.equals("wolf")) {
            return -3;
        }
        TreeMap<Integer, String> rows = new TreeMap<>();
        rows.put(knight.place, "");
        for (int d = 1; d <= 60; d++) {
            TreeMap<Integer, String> longer = new TreeMap<>();
            for (Map.Entry<Integer, String> row : rows.entrySet()) {
                TreeSet<Integer> goals = new TreeSet<>(nexts.get(row.getKey()));
                goals.add(row.getKey());
                for (int q : goals) {
                    if (!isHunted(q, now.day + d - 1)) {
                        longer.merge(q, row.getValue() + (char) ('a' + q), (a, b) -> a.compareTo(b) < 0 ? a : b);
                    }
                }
            }
            rows = longer;
            if (rows.containsKey(knight.clothes) && !bit(knight.wolfDays, weekdayOf(now.day + d - 1))) {
                if (what == 100) {
                    return d;
                }
                return what < d ? rows.get(knight.clothes).charAt(what) - 'a' : -4;
            }
        }
        return -2;
    }

    int safest(int n, int what) {
        if (!in(n, 1, 240) || !in(what, 0, 1)) {
            return -1;
        }
        int[] best = {-2, Integer.MAX_VALUE};
        for (int p : places) {
            int often = 0;
            for (int i = 0; i < n; i++) {
                often += isHunted(p, now.day + i) ? 1 : 0;
            }
            if (often < best[1]) {
                best = new int[] {p, often};
            }
        }
        return places.isEmpty() ? -2 : best[what];
    }

    int calm(int n, int what) {
        if (!in(n, 1, 240) || !in(what, 0, 1)) {
            return -1;
        }
        List<Integer> calm = new ArrayList<>();
        for (int i = 0; i < n; i++) {
            int weekday = weekdayOf(now.day + i);
            if (now.knights.values().stream().noneMatch(kn -> kn.lives() && bit(kn.wolfDays, weekday))) {
                calm.add(i);
            }
        }
        if (what == 0) {
            return calm.size();
        }
        return calm.isEmpty() ? -2 : calm.get(0);
    }

    int rumour(int p, int what) {
        if (!places.contains(p) || !in(what, 0, 2)) {
            return -1;
        }
        Map<Integer, Integer> far = allSteps(p);
        int most = far.values().stream().max(Integer::compare).get();
        if (what == 0) {
            return most;
        }
        if (what == 2) {
            return places.size() - far.size();
        }
        return far.entrySet().stream().filter(e -> e.getValue() == most).findFirst().get().getKey();
    }

    int middle() {
        return places.stream().min((p, q) -> {
            Map<Integer, Integer> a = allSteps(p);
            Map<Integer, Integer> b = allSteps(q);
            if (a.size() != b.size()) {
                return b.size() - a.size();
            }
            int farA = a.values().stream().max(Integer::compare).get();
            int farB = b.values().stream().max(Integer::compare).get();
            return farA != farB ? farA - farB : p - q;
        }).orElse(-2);
    }

    int between(int p, int q) {
        if (!places.contains(p) || !places.contains(q)) {
            return -1;
        }
        int bits = 0;
        int way = steps(p, q);
        for (int r : places) {
            if (way < 99 && steps(p, r) + steps(r, q) == way) {
                bits |= 1 << r;
            }
        }
        return bits;
    }

    int boots(int p, int n, int what) {
        if (!places.contains(p) || !in(n, 1, 20) || tape.size() < n || !in(what, 0, 1)) {
            return -1;
        }
        String text = take(n);
        Map<Integer, java.math.BigInteger> ways = new TreeMap<>();
        ways.put(p, java.math.BigInteger.ONE);
        for (int i = 0; i < n; i++) {
            char c = text.charAt(i);
            int seen = in(c, 'a', 'l') ? c - 'a' : -1;
            int notSeen = in(c, 'A', 'L') ? c - 'A' : -1;
            if (seen < 0 && notSeen < 0 && c != '?') {
                return -1000 - i;
            }
            if (c != '?' && !places.contains(Math.max(seen, notSeen))) {
                return -7000 - i;
            }
            Map<Integer, java.math.BigInteger> more = new TreeMap<>();
            for (int from : ways.keySet()) {
                more.merge(from, ways.get(from), java.math.BigInteger::add);
                for (int to : nexts.get(from)) {
                    more.merge(to, ways.get(from), java.math.BigInteger::add);
                }
            }
            more.keySet().removeIf(at -> seen >= 0 && at != seen || at == notSeen);
            ways = more;
        }
        if (what == 0) {
            return ways.keySet().stream().mapToInt(at -> 1 << at).sum();
        }
        java.math.BigInteger all = ways.values().stream().reduce(java.math.BigInteger.ZERO, java.math.BigInteger::add);
        return all.min(java.math.BigInteger.valueOf(1000000000)).intValue();
    }

    // ---- suspicions ----

    int absences(int n, int what) {
        if (!in(n, 1, 60) || tape.size() < n || !in(what, 0, 2)) {
            return -1;
        }
        String text = take(n);
        for (int i = 0; i < n; i++) {
            if ("pa?".indexOf(text.charAt(i)) < 0) {
                return -1000 - i;
            }
        }
        int bits = 0;
        if (what == 2) {
            for (int d = 0; d < 7; d++) {
                int three = 1 << d | 1 << (d + 1) % 7 | 1 << (d + 2) % 7;
                bits |= meant(text, three, false) ? 1 << d : 0;
            }
            return bits;
        }
        for (Map.Entry<Integer, Knight> knight : now.knights.entrySet()) {
            bits |= meant(text, knight.getValue().wolfDays, what == 1) ? 1 << knight.getKey() : 0;
        }
        return bits;
    }

    private boolean meant(String text, int wolfDays, boolean absentThenAlone) {
        for (int i = 0; i < text.length(); i++) {
            boolean wolf = bit(wolfDays, weekdayOf(now.day - i));
            if (text.charAt(i) == 'p' && wolf || absentThenAlone && text.charAt(i) == 'a' && !wolf) {
                return false;
            }
        }
        return true;
    }

    private int[] takePairs(int n) {
        String text = take(2 * n);
        int[] pairs = new int[n];
        Arrays.setAll(pairs, i -> text.charAt(2 * i) * 256 + text.charAt(2 * i + 1));
        return pairs;
    }

    int hated(int n, int what) {
        if (!in(n, 1, 16) || tape.size() < 2 * n || !in(what, 0, 2)) {
            return -1;
        }
        int[] evenings = takePairs(n);
        List<int[]> twos = new ArrayList<>();
        for (int a = 0; a < 12; a++) {
            for (int b = a + 1; b < 12; b++) {
                boolean can = true;
                for (int evening : evenings) {
                    can &= (bit(evening, a) || bit(evening, b)) == evening >= 32768;
                }
                if (can) {
                    twos.add(new int[] {a, b});
                }
            }
        }
        if (what == 0) {
            return twos.size();
        }
        return twos.isEmpty() ? -2 : twos.get(0)[what - 1];
    }

    int suits(int n, int without) {
        if (!in(n, 1, 9) || tape.size() < 2 * n) {
            return -1;
        }
        int[] barons = takePairs(n);
        if (!in(without, -1, 8)) {
            return -2;
        }
        return dress(barons, 0, without < 0 ? 0 : 1 << without);
    }

    private static int dress(int[] barons, int baron, int worn) {
        if (baron == barons.length) {
            return 1;
        }
        int ways = 0;
        for (int s = 0; s < 9; s++) {
            if (bit(barons[baron], s) && !bit(worn, s)) {
                ways += dress(barons, baron + 1, worn | 1 << s);
            }
        }
        return ways;
    }

    // ---- tables ----

    private static LocalDate dated(int year, int month, int day) {
        if (!in(year, 1, 9999)) {
            return null;
        }
        try {
            return LocalDate.of(year, month, day);
        } catch (DateTimeException none) {
            return null;
        }
    }

    int weekday(int year, int month, int day) {
        LocalDate date = dated(year, month, day);
        return date == null ? -1 : date.getDayOfWeek().getValue() % 7;
    }

    int daysBetween(int year, int month, int day, int otherYear, int otherMonth, int otherDay) {
        LocalDate from = dated(year, month, day);
        LocalDate to = dated(otherYear, otherMonth, otherDay);
        return from == null || to == null ? -10000000 : (int) ChronoUnit.DAYS.between(from, to);
    }

    int feast(int year, int month, int n, int weekday) {
        if (dated(year, month, 1) == null || !in(n, 1, 5) || !in(weekday, 0, 6)) {
            return -1;
        }
        int seen = 0;
        for (int day = 1; dated(year, month, day) != null; day++) {
            seen += weekday(year, month, day) == weekday ? 1 : 0;
            if (seen == n) {
                return day;
            }
        }
        return -2;
    }

    /** By the tables of golden numbers and epacts, as they stand in the old books of reckoning. */
    int easter(int year) {
        if (!in(year, 1, 9999)) {
            return -1;
        }
        int golden = year % 19 + 1;
        int century = year / 100 + 1;
        int solar = 3 * century / 4 - 12;
        int lunar = (8 * century + 5) / 25 - 5;
        int sunday = 5 * year / 4 - solar - 10;
        int epact = Math.floorMod(11 * golden + 20 + lunar - solar, 30);
        if (epact == 25 && golden > 11 || epact == 24) {
            epact++;
        }
        int moon = 44 - epact;
        if (moon < 21) {
            moon += 30;
        }
        moon = moon + 7 - Math.floorMod(sunday + moon, 7);
        return moon > 31 ? 400 + moon - 31 : 300 + moon;
    }

    int date(int year, int n) {
        LocalDate first = dated(year, 1, 1);
        if (first == null || !in(n, 0, first.lengthOfYear() - 1)) {
            return -1;
        }
        LocalDate date = first.plusDays(n);
        return 100 * date.getMonthValue() + date.getDayOfMonth();
    }

    // ---- kept and undone ----

    int keep() {
        kept = now.copy();
        return now.day;
    }

    boolean undo() {
        if (kept == null) {
            return false;
        }
        now = kept.copy();
        return true;
    }

    int check(int n) {
        if (!in(n, 0, 9) || tape.size() < n) {
            return -2;
        }
        String text = take(n);
        for (int i = 0; i < n; i++) {
            Knight knight = now.knights.get(i);
            if (text.charAt(i) != (knight == null ? 255 : knight.place)) {
                return i;
            }
        }
        return -1;
    }

    private int bitsOf(String kind) {
        return now.knights.entrySet().stream().filter(e -> e.getValue().kind.equals(kind))
                .mapToInt(e -> 1 << e.getKey()).sum();
    }

    int count(int what) {
        if (what >= 20 && places.contains(what - 20)) {
            return nexts.get(what - 20).stream().mapToInt(q -> 1 << q).sum();
        }
        if (in(what, 40, 51)) {
            return hunts.getOrDefault(what - 40, "").length();
        }
        return switch (what) {
            case 0 -> now.day;
            case 1 -> weekdayOf(now.day);
            case 2 -> places.stream().mapToInt(p -> 1 << p).sum();
            case 3 -> now.knights.keySet().stream().mapToInt(k -> 1 << k).sum();
            case 4 -> bitsOf("wolf");
            case 5 -> bitsOf("dead");
            case 6 -> rules.size();
            case 7 -> tape.size();
            case 8 -> now.x;
            default -> -1;
        };
    }
}
