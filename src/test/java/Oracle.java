import java.util.ArrayDeque;
import java.util.ArrayList;
import java.util.Deque;
import java.util.HashMap;
import java.util.List;
import java.util.Map;
import java.util.TreeMap;
import java.util.TreeSet;

/** The document once more, slowly and in other ways than the program's, to compare answers with. */
final class Oracle {
    /** A text's FAULT. */
    private static final class Fault extends RuntimeException {
        private static final long serialVersionUID = 1L;
        final int answer;

        Fault(int number, int place) {
            super(null, null, false, false);
            answer = -1000 * number - place;
        }
    }

    private static final class Refused extends RuntimeException {
        private static final long serialVersionUID = 1L;

        Refused() {
            super(null, null, false, false);
        }
    }

    private record Thing(int side, int from, int until) {
        boolean there(int turn) {
            for (int t = from; ; t = (t + 1) % 12) {
                if (t == turn) {
                    return true;
                }
                if (t == until) {
                    return false;
                }
            }
        }
    }

    private record Rule(char kind, String worth, String test) {
    }

    private static final class Hours {
        Integer window = null;
        TreeSet<Integer> brings = new TreeSet<>();
        int cracks = 0;
        TreeMap<Integer, Integer> joy = new TreeMap<>();
        int day = 0;
        long x = 1;

        Hours copy() {
            Hours other = new Hours();
            other.window = window;
            other.brings = new TreeSet<>(brings);
            other.cracks = cracks;
            other.joy = new TreeMap<>(joy);
            other.day = day;
            other.x = x;
            return other;
        }
    }

    private StringBuilder tape = new StringBuilder();
    private TreeMap<Integer, Integer> houses = new TreeMap<>();
    private TreeMap<Integer, Thing> things = new TreeMap<>();
    private Integer[] holders = new Integer[12];
    private List<Rule> rules = new ArrayList<>();
    private Hours now = new Hours();
    private Hours kept = null;

    private static boolean within(int value, int least, int most) {
        return least <= value && value <= most;
    }

    private String takeTape(int n) {
        String text = tape.substring(0, n);
        tape.setLength(0);
        return text;
    }

    private boolean lacks(int n, int least, int most, int each) {
        return !within(n, least, most) || (long) n * each > tape.length();
    }

    boolean turn(int t, int house) {
        if (!within(t, 0, 11) || house != -1 && !houses.containsKey(house)) {
            return false;
        }
        holders[t] = house == -1 ? null : Integer.valueOf(house);
        return true;
    }

    int feed(int... five) {
        if (tape.length() > 240) {
            return -1;
        }
        for (int four : five) {
            for (int i = 3; i >= 0; i--) {
                tape.append((char) (four >>> 8 * i & 255));
            }
        }
        return tape.length();
    }

    // ---- texts ----

    int terrace(int n) {
        if (lacks(n, 1, 200, 1)) {
            return -1;
        }
        String text = takeTape(n);
        TreeMap<Integer, Integer> newHouses = new TreeMap<>();
        TreeMap<Integer, Thing> newThings = new TreeMap<>();
        int lines;
        try {
            lines = readTerrace(text, newHouses, newThings);
        } catch (Fault fault) {
            return fault.answer;
        }
        houses = newHouses;
        things = newThings;
        for (int t = 0; t < 12; t++) {
            if (holders[t] != null && !houses.containsKey(holders[t])) {
                holders[t] = null;
            }
        }
        Hours fresh = new Hours();
        fresh.day = now.day;
        fresh.x = now.x;
        now = fresh;
        return lines;
    }

    private static int readTerrace(String text, Map<Integer, Integer> newHouses, Map<Integer, Thing> newThings) {
        int at = 0;
        for (int line = 1; ; line++) {
            char letter = at < text.length() ? text.charAt(at) : 0;
            boolean house = letter >= 'a' && letter <= 'p';
            if (!house && !(letter >= 'A' && letter <= 'P')) {
                throw new Fault(1, at);
            }
            if (line == 33) {
                throw new Fault(4, at);
            }
            if (house ? newHouses.containsKey(letter - 'a') : newThings.containsKey(letter - 'A')) {
                throw new Fault(6, at);
            }
            at++;
            List<Integer> numbers = new ArrayList<>();
            for (char due : (house ? "#" : "#@#-#").toCharArray()) {
                if (due != '#') {
                    if (at >= text.length() || text.charAt(at) != due) {
                        throw new Fault(1, at);
                    }
                    at++;
                    continue;
                }
                int first = at;
                while (at < text.length() && Character.isDigit(text.charAt(at)) && text.charAt(at) < 128) {
                    if (at - first == 2) {
                        throw new Fault(2, at);
                    }
                    at++;
                }
                if (first == at) {
                    throw new Fault(1, at);
                }
                int value = Integer.parseInt(text.substring(first, at));
                if (value > 11) {
                    throw new Fault(3, first);
                }
                numbers.add(value);
            }
            if (house) {
                newHouses.put(letter - 'a', numbers.get(0));
            } else {
                newThings.put(letter - 'A', new Thing(numbers.get(0), numbers.get(1), numbers.get(2)));
            }
            if (at == text.length()) {
                return line;
            }
            if (text.charAt(at) != ';') {
                throw new Fault(1, at);
            }
            at++;
        }
    }

    int rota(int n) {
        if (lacks(n, 1, 60, 1)) {
            return -1;
        }
        String text = takeTape(n);
        StringBuilder turns;
        try {
            turns = readRota(text);
        } catch (Fault fault) {
            return fault.answer;
        }
        for (int t = 0; t < 12; t++) {
            holders[t] = t < turns.length() && turns.charAt(t) != '-' ? Integer.valueOf(turns.charAt(t) - 'a') : null;
        }
        return turns.length();
    }

    /** With a stack of the rounds that are open: where each began, how often, from which turn on. */
    private StringBuilder readRota(String text) {
        StringBuilder turns = new StringBuilder();
        Deque<int[]> open = new ArrayDeque<>();
        boolean empty = true;
        for (int at = 0; at < text.length(); at++) {
            int first = at;
            int times = 1;
            if ("23456789".indexOf(text.charAt(at)) >= 0) {
                times = text.charAt(at) - '0';
                at++;
            }
            char sign = at < text.length() ? text.charAt(at) : 0;
            if (sign == '(') {
                if (open.size() == 2) {
                    throw new Fault(5, at);
                }
                open.push(new int[] {first, times, turns.length()});
                empty = true;
            } else if (sign == ')' && first == at && !empty && !open.isEmpty()) {
                int[] round = open.pop();
                String once = turns.substring(round[2]);
                turns.setLength(round[2]);
                append(turns, once, round[1], round[0]);
            } else if (sign == '-' || sign >= 'a' && sign <= 'p') {
                append(turns, String.valueOf(sign), times, first);
                empty = false;
            } else {
                throw new Fault(1, at);
            }
        }
        if (!open.isEmpty() || empty) {
            throw new Fault(1, text.length());
        }
        for (int at = 0; at < text.length(); at++) {
            if (text.charAt(at) >= 'a' && !houses.containsKey(text.charAt(at) - 'a')) {
                throw new Fault(7, at);
            }
        }
        return turns;
    }

    private static void append(StringBuilder turns, String once, int times, int first) {
        turns.append(once.repeat(times));
        if (turns.length() > 12) {
            throw new Fault(6, first);
        }
    }

    int law(int n) {
        if (lacks(n, 1, 240, 1)) {
            return -1;
        }
        String text = takeTape(n);
        try {
            proveLaw(text);
        } catch (Fault fault) {
            return fault.answer;
        }
        rules = new ArrayList<>();
        for (String rule : text.split(";")) {
            int bracket = rule.indexOf('(');
            rules.add(new Rule(rule.charAt(0), rule.substring(1, bracket),
                rule.substring(bracket + 1, rule.length() - 1)));
        }
        return rules.size();
    }

    /** Sign by sign, with a stack of what is open. */
    private static void proveLaw(String text) {
        String state = "rule";
        Deque<Character> open = new ArrayDeque<>();
        boolean inTest = false;
        boolean compared = false;
        int digits = 0;
        int ruleNumber = 0;
        for (int at = 0; at < text.length(); at++) {
            char sign = text.charAt(at);
            boolean digit = sign >= '0' && sign <= '9';
            if (digit && digits > 0) {
                digits++;
                if (digits == 6) {
                    throw new Fault(2, at);
                }
                continue;
            }
            digits = 0;
            if (state.equals("rule")) {
                if ("cjx".indexOf(sign) < 0) {
                    throw new Fault(1, at);
                }
                ruleNumber++;
                if (ruleNumber == 17) {
                    throw new Fault(4, at);
                }
                inTest = false;
                state = sign == 'x' ? "bracket" : "operand";
            } else if (state.equals("bracket") || state.equals("done") && !inTest && sign == '(' && open.isEmpty()) {
                if (sign != '(') {
                    throw new Fault(1, at);
                }
                open.push('(');
                inTest = true;
                compared = false;
                state = "test";
            } else if ((state.equals("operand") || state.equals("test"))
                && (digit || "hgsdnbktw".indexOf(sign) >= 0)) {
                digits = digit ? 1 : 0;
                state = "done";
            } else if ((state.equals("operand") || state.equals("test")) && sign == '['
                || state.equals("test") && (sign == '!' || sign == '(')) {
                if (open.size() == 6) {
                    throw new Fault(5, at);
                }
                open.push(sign);
                state = sign == '[' ? "operand" : "test";
            } else if (state.equals("done") && "+-*/%".indexOf(sign) >= 0) {
                state = "operand";
            } else if (state.equals("done") && sign == ']' && !open.isEmpty() && open.peek() == '[') {
                open.pop();
            } else if (state.equals("done") && inTest && open.peek() != '[' && !compared
                && "<>=".indexOf(sign) >= 0) {
                compared = true;
                state = "operand";
            } else if (state.equals("done") && inTest && open.peek() != '[' && compared
                || state.equals("closed")) {
                while (!open.isEmpty() && open.peek() == '!') {
                    open.pop();
                }
                if (sign == '&' || sign == '|') {
                    compared = false;
                    state = "test";
                } else if (sign == ')') {
                    open.pop();
                    state = open.isEmpty() ? "end" : "closed";
                } else {
                    throw new Fault(1, at);
                }
            } else if (state.equals("end") && sign == ';') {
                state = "rule";
            } else {
                throw new Fault(1, at);
            }
        }
        if (!state.equals("end")) {
            throw new Fault(1, text.length());
        }
    }

    // ---- reckoning by cutting texts at their signs ----

    private static List<String> cut(String text, char sign) {
        List<String> parts = new ArrayList<>();
        int depth = 0;
        int start = 0;
        for (int i = 0; i < text.length(); i++) {
            char each = text.charAt(i);
            depth += each == '(' || each == '[' ? 1 : each == ')' || each == ']' ? -1 : 0;
            if (depth == 0 && each == sign) {
                parts.add(text.substring(start, i));
                start = i + 1;
            }
        }
        parts.add(text.substring(start));
        return parts;
    }

    private static boolean holds(String choice, Map<Character, Integer> letters) {
        for (String part : cut(choice, '|')) {
            boolean all = true;
            for (String test : cut(part, '&')) {
                if (!testHolds(test, letters)) {
                    all = false;
                    break;
                }
            }
            if (all) {
                return true;
            }
        }
        return false;
    }

    private static boolean testHolds(String test, Map<Character, Integer> letters) {
        if (test.charAt(0) == '!') {
            return !testHolds(test.substring(1), letters);
        }
        if (test.charAt(0) == '(') {
            return holds(test.substring(1, test.length() - 1), letters);
        }
        for (char sign : "<>=".toCharArray()) {
            List<String> sides = cut(test, sign);
            if (sides.size() == 2) {
                int left = sum(sides.get(0), letters);
                int right = sum(sides.get(1), letters);
                return sign == '<' ? left < right : sign == '>' ? left > right : left == right;
            }
        }
        throw new IllegalStateException(test);
    }

    /** The last sign that stands free of brackets parts what is reckoned last. */
    private static int lastOf(String text, String signs) {
        int depth = 0;
        for (int i = text.length() - 1; i >= 0; i--) {
            char each = text.charAt(i);
            depth += each == ']' ? 1 : each == '[' ? -1 : 0;
            if (depth == 0 && signs.indexOf(each) >= 0) {
                return i;
            }
        }
        return -1;
    }

    private static int sum(String text, Map<Character, Integer> letters) {
        int at = lastOf(text, "+-");
        if (at < 0) {
            at = lastOf(text, "*/%");
        }
        if (at >= 0) {
            int left = sum(text.substring(0, at), letters);
            int right = sum(text.substring(at + 1), letters);
            switch (text.charAt(at)) {
                case '+':
                    return left + right;
                case '-':
                    return left - right;
                case '*':
                    return left * right;
                default:
                    if (right == 0) {
                        throw new Refused();
                    }
                    return text.charAt(at) == '/' ? left / right : left % right;
            }
        }
        if (text.charAt(0) == '[') {
            return sum(text.substring(1, text.length() - 1), letters);
        }
        return letters.containsKey(text.charAt(0)) ? letters.get(text.charAt(0)) : Integer.parseInt(text);
    }

    private Integer worth(char kind, int most, Map<Character, Integer> letters) {
        for (Rule rule : rules) {
            boolean holding = false;
            try {
                holding = rule.kind() == kind && holds(rule.test(), letters);
            } catch (Refused refused) {
                holding = false;
            }
            if (holding) {
                try {
                    return kind == 'x' ? 1 : Math.max(0, Math.min(most, sum(rule.worth(), letters)));
                } catch (Refused refused) {
                    return 0;
                }
            }
        }
        return null;
    }

    // ---- days ----

    private Map<Character, Integer> letters(Hours hours, int house, int turn) {
        Map<Character, Integer> letters = new HashMap<>();
        letters.put('h', house);
        letters.put('g', hours.window == null ? 16 : hours.window);
        letters.put('s', turn);
        letters.put('d', hours.window == null ? 0 : Math.abs(house - hours.window));
        letters.put('n', seen(house, turn).size());
        letters.put('b', hours.brings.size());
        letters.put('k', hours.cracks % 100);
        letters.put('t', hours.day % 100);
        letters.put('w', (int) (hours.x % 10));
        return letters;
    }

    private TreeSet<Integer> seen(int house, int turn) {
        TreeSet<Integer> seen = new TreeSet<>();
        for (Map.Entry<Integer, Thing> each : things.entrySet()) {
            int apart = Math.floorMod(each.getValue().side() - houses.get(house), 12);
            if ((apart == 0 || apart == 1 || apart == 11) && each.getValue().there(turn)) {
                seen.add(each.getKey());
            }
        }
        return seen;
    }

    private void live(Hours hours, int n) {
        for (int i = 0; i < n; i++) {
            if (hours.day == 9999) {
                return;
            }
            for (int turn = 0; turn < 12; turn++) {
                if (holders[turn] == null) {
                    continue;
                }
                hours.x = (25173 * hours.x + 13849) % 65536;
                Map<Character, Integer> letters = letters(hours, holders[turn], turn);
                boolean left = worth('x', 0, letters) != null;
                Integer cracks = worth('c', 9, letters);
                if (!left && !holders[turn].equals(hours.window)) {
                    hours.cracks = Math.min(9999, hours.cracks + (cracks == null ? 0 : cracks));
                    hours.window = holders[turn];
                }
                if (hours.window == null) {
                    continue;
                }
                TreeSet<Integer> saw = seen(hours.window, turn);
                Integer joy = worth('j', 99, letters(hours, hours.window, turn));
                int more = joy == null ? saw.size() + hours.brings.size() : joy;
                hours.joy.merge(hours.window, more, (a, b) -> Math.min(99999, a + b));
                if (!saw.isEmpty()) {
                    hours.brings = saw;
                }
            }
            hours.day++;
        }
    }

    int days(int n) {
        if (!within(n, 1, 100)) {
            return -1;
        }
        int before = now.cracks;
        live(now, n);
        return now.cracks - before;
    }

    private static int bits(Iterable<Integer> set) {
        int bits = 0;
        for (int each : set) {
            bits += 1 << each;
        }
        return bits;
    }

    private static int joyOfAll(Hours hours) {
        return hours.joy.values().stream().mapToInt(Integer::intValue).sum();
    }

    int tried(int n, int what) {
        if (!within(n, 1, 100) || !within(what, 0, 3) && !(within(what, 10, 25) && houses.containsKey(what - 10))) {
            return -1;
        }
        Hours then = now.copy();
        live(then, n);
        return what == 0 ? then.cracks - now.cracks : what == 1 ? then.window == null ? -2 : then.window
            : what == 2 ? bits(then.brings) : what == 3 ? joyOfAll(then) : then.joy.getOrDefault(what - 10, 0);
    }

    boolean seed(int x) {
        if (!within(x, 0, 65535)) {
            return false;
        }
        now.x = x;
        return true;
    }

    int keep() {
        kept = now.copy();
        return now.day;
    }

    boolean undo() {
        if (kept == null) {
            return false;
        }
        now = kept.copy();
        if (now.window != null && !houses.containsKey(now.window)) {
            now.window = null;
        }
        now.joy.keySet().retainAll(houses.keySet());
        return true;
    }

    int check(int n) {
        if (lacks(n, 0, 16, 1)) {
            return -2;
        }
        String bytes = takeTape(n);
        for (int house = 0; house < n; house++) {
            int due = houses.containsKey(house) ? now.joy.getOrDefault(house, 0) % 256 : 255;
            if (bytes.charAt(house) != due) {
                return house;
            }
        }
        return -1;
    }

    int count(int what) {
        int taken = 0;
        for (Integer holder : holders) {
            taken += holder == null ? 0 : 1;
        }
        int[] all = {now.day, bits(houses.keySet()), bits(things.keySet()), now.window == null ? -2 : now.window,
            bits(now.brings), now.cracks, rules.size(), tape.length(), (int) now.x, joyOfAll(now), now.brings.size(),
            taken};
        return within(what, 0, 11) ? all[what] : -1;
    }

    // ---- who sees what when ----

    int sees(int house, int turn) {
        return houses.containsKey(house) && within(turn, 0, 11) ? bits(seen(house, turn)) : -1;
    }

    private static int longest(boolean[] good) {
        int longest = 0;
        for (int start = 0; start < 12; start++) {
            int run = 0;
            while (run < 12 && good[(start + run) % 12]) {
                run++;
            }
            longest = Math.max(longest, run);
        }
        return longest;
    }

    private boolean holds(int turn, int house) {
        return holders[turn] != null && holders[turn] == house;
    }

    private int turnsOf(int house) {
        int number = 0;
        for (int turn = 0; turn < 12; turn++) {
            number += holds(turn, house) ? 1 : 0;
        }
        return number;
    }

    int houseIs(int house, int what) {
        if (!houses.containsKey(house) || !within(what, 0, 4)) {
            return -1;
        }
        boolean[] dark = new boolean[12];
        int all = 0;
        for (int turn = 0; turn < 12; turn++) {
            dark[turn] = !holds(turn, house);
            all |= sees(house, turn);
        }
        return new int[] {houses.get(house), now.joy.getOrDefault(house, 0), turnsOf(house), longest(dark), all}[what];
    }

    private static int way(Integer[] rota, boolean round) {
        List<Integer> row = new ArrayList<>();
        for (Integer house : rota) {
            if (house != null) {
                row.add(house);
            }
        }
        int way = 0;
        for (int i = 1; i < row.size(); i++) {
            way += Math.abs(row.get(i) - row.get(i - 1));
        }
        return way + (round && !row.isEmpty() ? Math.abs(row.get(0) - row.get(row.size() - 1)) : 0);
    }

    int rotaIs(int what) {
        if (within(what, 0, 11)) {
            return holders[what] == null ? -2 : holders[what];
        }
        int seen = 0;
        for (int turn = 0; turn < 12; turn++) {
            seen |= holders[turn] == null ? 0 : sees(holders[turn], turn);
        }
        return what == 100 ? way(holders, false) : what == 101 ? way(holders, true) : what == 102 ? seen : -1;
    }

    int next(int house, int thing, int turn) {
        if (!houses.containsKey(house) || !things.containsKey(thing) || !within(turn, 0, 11)) {
            return -1;
        }
        for (int wait = 0; wait < 12; wait++) {
            int then = (turn + wait) % 12;
            if (holds(then, house) && seen(house, then).contains(thing)) {
                return wait;
            }
        }
        return -2;
    }

    int light(int house, int what) {
        if (!houses.containsKey(house) || !within(what, 0, 1)) {
            return -1;
        }
        boolean[] lit = new boolean[12];
        int number = 0;
        for (int turn = 0; turn < 12; turn++) {
            lit[turn] = !seen(house, turn).isEmpty();
            number += lit[turn] ? 1 : 0;
        }
        return what == 0 ? number : longest(lit);
    }

    int seers(int thing) {
        if (!things.containsKey(thing)) {
            return -1;
        }
        TreeSet<Integer> found = new TreeSet<>();
        for (int house : houses.keySet()) {
            for (int turn = 0; turn < 12; turn++) {
                if (seen(house, turn).contains(thing)) {
                    found.add(house);
                }
            }
        }
        return bits(found);
    }

    int ifSwapped(int one, int other) {
        if (!within(one, 0, 11) || !within(other, 0, 11)) {
            return -1;
        }
        Integer[] swapped = holders.clone();
        swapped[one] = holders[other];
        swapped[other] = holders[one];
        return way(swapped, false);
    }

    int spread() {
        TreeSet<Integer> numbers = new TreeSet<>();
        for (int house : houses.keySet()) {
            numbers.add(turnsOf(house));
        }
        return numbers.isEmpty() ? 0 : numbers.last() - numbers.first();
    }

    private TreeSet<Integer> reading(int turn, int n) {
        TreeSet<Integer> found = new TreeSet<>();
        for (int i = 1; i <= n; i++) {
            Integer house = holders[(turn + i) % 12];
            if (house != null) {
                found.add(house);
                if (seen(house, (turn + i) % 12).isEmpty()) {
                    break;
                }
            }
        }
        return found;
    }

    int readers(int turn, int n) {
        return within(turn, 0, 11) && within(n, 0, 12) ? bits(reading(turn, n)) : -1;
    }

    int bestBreath(int house, int what) {
        if (!houses.containsKey(house) || !within(what, 0, 1)) {
            return -1;
        }
        int best = -2;
        int most = 0;
        for (int turn = 11; turn >= 0; turn--) {
            if (holds(turn, house)) {
                TreeSet<Integer> found = reading(turn, 12);
                found.remove(house);
                if (found.size() >= most) {
                    most = found.size();
                    best = turn;
                }
            }
        }
        return what == 0 ? best : most;
    }

    int clearest(int what) {
        if (!within(what, 0, 1)) {
            return -1;
        }
        int best = 0;
        int most = -1;
        for (int turn = 0; turn < 12; turn++) {
            int twos = 0;
            for (int house : houses.keySet()) {
                twos += seen(house, turn).size();
            }
            if (twos > most) {
                most = twos;
                best = turn;
            }
        }
        return what == 0 ? best : most;
    }

    int whoHad(int turn, int some) {
        if (!within(turn, 0, 11) || !within(some, 0, 65535)) {
            return -1;
        }
        int found = 0;
        for (int house : houses.keySet()) {
            found += sees(house, turn) == some ? 1 << house : 0;
        }
        return found;
    }

    int second(int what) {
        if (!within(what, 0, 1)) {
            return -1;
        }
        int[] views = new int[16];
        int all = 0;
        for (int house : houses.keySet()) {
            views[house] = houseIs(house, 4);
            all |= views[house];
        }
        int best = 65535;
        for (int set = 65535; set >= 0; set--) {
            int seen = 0;
            for (int house = 0; house < 16; house++) {
                seen |= (set >> house & 1) == 1 ? views[house] : 0;
            }
            if (seen == all && Integer.bitCount(set) <= Integer.bitCount(best)) {
                best = set;
            }
        }
        return what == 0 ? Integer.bitCount(best) : best;
    }

    /** Every told house in every turn, also where it grants nothing; the first house is part of the state. */
    int shortest(int n, int what) {
        if (lacks(n, 1, 6, 2) || !within(what, 0, 1)) {
            return -1;
        }
        String wishes = takeTape(2 * n);
        for (int i = 0; i < n; i++) {
            if (!houses.containsKey((int) wishes.charAt(2 * i)) || !things.containsKey((int) wishes.charAt(2 * i + 1))) {
                return -3;
            }
        }
        // first * 16 + last, with the set of wishes granted above; -1 is no house yet
        Map<Integer, Integer> reached = new HashMap<>();
        reached.put(-1, 0);
        for (int turn = 0; turn < 12; turn++) {
            Map<Integer, Integer> then = new HashMap<>(reached);
            for (int house : houses.keySet()) {
                TreeSet<Integer> seen = seen(house, turn);
                int granted = 0;
                for (int i = 0; i < n; i++) {
                    granted |= wishes.charAt(2 * i) == house && seen.contains((int) wishes.charAt(2 * i + 1)) ? 1 << i : 0;
                }
                for (Map.Entry<Integer, Integer> each : reached.entrySet()) {
                    int key = each.getKey();
                    int first = key < 0 ? house : key >> 4 & 15;
                    int set = key < 0 ? 0 : key >> 8;
                    int carried = key < 0 ? 0 : Math.abs(house - (key & 15));
                    then.merge((set | granted) << 8 | first << 4 | house, each.getValue() + carried, Math::min);
                }
            }
            reached = then;
        }
        int best = Integer.MAX_VALUE;
        for (Map.Entry<Integer, Integer> each : reached.entrySet()) {
            if (each.getKey() >= 0 && each.getKey() >> 8 == (1 << n) - 1) {
                best = Math.min(best, each.getValue() * 16 + (each.getKey() >> 4 & 15));
            }
        }
        return best == Integer.MAX_VALUE ? -2 : what == 0 ? best / 16 : best % 16;
    }

    // ---- what is reckoned from the tape alone ----

    int crack(int n, int what) {
        if (lacks(n, 1, 12, 2) || !within(what, 0, 1)) {
            return -1;
        }
        String said = takeTape(2 * n);
        for (int i = 0; i < n; i++) {
            if (said.charAt(2 * i) > 11 || said.charAt(2 * i + 1) > 1) {
                return -3;
            }
        }
        int which = 0;
        int whose = 0;
        for (int came = 0; came <= 12; came++) {
            boolean can = true;
            for (int i = 0; i < n; i++) {
                boolean there = said.charAt(2 * i) >= came;
                can &= there == (said.charAt(2 * i + 1) == 1);
            }
            which |= can ? 1 << came : 0;
            whose |= can && came < 12 && holders[came] != null ? 1 << holders[came] : 0;
        }
        return what == 0 ? which : whose;
    }

    int halves(int n) {
        return lacks(n, 2, 12, 1) ? -1 : most(takeTape(n));
    }

    private static int most(String joys) {
        if (joys.length() == 1) {
            return joys.charAt(0);
        }
        int sum = joys.chars().sum();
        return sum - Math.min(most(joys.substring(1)), most(joys.substring(0, joys.length() - 1)));
    }

    int swaps(int n, int what) {
        if (lacks(n, 2, 8, n) || !within(what, 0, 1)) {
            return -1;
        }
        String worths = takeTape(n * n);
        List<Integer> twos = new ArrayList<>();
        for (int i = 0; i < n; i++) {
            for (int j = 0; j < i; j++) {
                if (worths.charAt(i * n + j) > worths.charAt(i * n + i)
                    && worths.charAt(j * n + i) > worths.charAt(j * n + j)) {
                    twos.add(1 << i | 1 << j);
                }
            }
        }
        return what == 0 ? twos.size() : atOnce(twos, 0, 0);
    }

    private static int atOnce(List<Integer> twos, int from, int used) {
        int most = 0;
        for (int i = from; i < twos.size(); i++) {
            if ((twos.get(i) & used) == 0) {
                most = Math.max(most, 1 + atOnce(twos, i + 1, used | twos.get(i)));
            }
        }
        return most;
    }

    int sale(int n, int what) {
        if (lacks(n, 2, 8, n) || what != 100 && !within(what, 0, n - 1)) {
            return -1;
        }
        int[] turnOf = new int[n];
        int[] best = new int[n + 1];
        best[n] = -1;
        sell(takeTape(n * n), n, 0, 0, turnOf, best);
        for (int person = 0; person < n; person++) {
            if (best[person] == what) {
                return person;
            }
        }
        return best[n];
    }

    /** All orders, from the first one on, so the first of the best is the one that is due. */
    private static void sell(String worths, int n, int person, int sum, int[] turnOf, int[] best) {
        if (person == n) {
            if (sum > best[n]) {
                System.arraycopy(turnOf, 0, best, 0, n);
                best[n] = sum;
            }
            return;
        }
        for (int turn = 0; turn < n; turn++) {
            boolean free = true;
            for (int i = 0; i < person; i++) {
                free &= turnOf[i] != turn;
            }
            if (free) {
                turnOf[person] = turn;
                sell(worths, n, person + 1, sum + worths.charAt(person * n + turn), turnOf, best);
            }
        }
    }

    int panes(int n, int wide) {
        if (lacks(n, 1, 6, 1) || !within(wide, 1, 6)) {
            return -1;
        }
        String rows = takeTape(n);
        int best = 0;
        for (int top = 0; top < n; top++) {
            for (int below = top + 1; below <= n; below++) {
                for (int left = 0; left < wide; left++) {
                    for (int right = left + 1; right <= wide; right++) {
                        boolean clear = true;
                        for (int row = top; row < below; row++) {
                            for (int column = left; column < right; column++) {
                                clear &= (rows.charAt(row) >> column & 1) == 0;
                            }
                        }
                        best = clear ? Math.max(best, (below - top) * (right - left)) : best;
                    }
                }
            }
        }
        return best;
    }

    int keepIt(int n, int k) {
        if (lacks(n, 1, 20, 1) || !within(k, -1, n - 1)) {
            return -1;
        }
        String brought = takeTape(n);
        if (k >= 0) {
            return had(brought, k);
        }
        int best = n - 1;
        for (int each = n - 1; each >= 0; each--) {
            best = had(brought, each) >= had(brought, best) ? each : best;
        }
        return best;
    }

    private static int had(String brought, int k) {
        if (k == 0) {
            return brought.charAt(0);
        }
        int ahead = brought.substring(0, k).chars().max().getAsInt();
        return brought.substring(k).chars().filter(each -> each > ahead).findFirst()
            .orElse(brought.charAt(brought.length() - 1));
    }

    long rotas(int k) {
        return within(k, 1, 12) ? GamesTest.rotasByHand(k) : -1;
    }
}
