import java.util.ArrayList;
import java.util.Arrays;
import java.util.HashMap;
import java.util.HashSet;
import java.util.List;
import java.util.Map;
import java.util.Set;
import java.util.TreeMap;

/**
 * A second program of the same document, made as simply as its words go and without a thought for time:
 * waits are counted one by one, rows are all tried, sets are closed by going round until nothing changes.
 */
final class Model {
    private static final int NO = Checks.NO_NUMBER;
    private static final List<String> OPS = Arrays.asList(
            "stop", "load", "add", "less", "times", "store", "neg", "zero", "print", "halve");

    private StringBuilder tape = new StringBuilder();
    private int faultKind = 0;
    private int faultPlace = -1;

    private int words = 16;
    private List<int[]> tracks = new ArrayList<>(Arrays.asList(new int[] {16, 16}, new int[] {16, 16}));
    private int[] values = {};
    private int entry = 0;
    private int[] laid = {};
    private Set<Integer> bad = new HashSet<>();
    private final Map<Integer, int[]> kept = new HashMap<>();
    private Run told = null;
    private final List<int[]> jobs = new ArrayList<>();

    /** One run: what came of it, and all its readings in order (step, name, whether as an order). */
    private static final class Run {
        int how;
        int a;
        int at;
        int steps;
        int time;
        int least;
        int[] before;
        int[] end;
        int[] waits;
        final List<Integer> printed = new ArrayList<>();
        final List<int[]> readings = new ArrayList<>();
    }

    private static final class Stop extends RuntimeException {
        private static final long serialVersionUID = 1L;
        final int kind;
        final int place;

        Stop(int kind, int place) {
            this.kind = kind;
            this.place = place;
        }
    }

    // ---- texts

    private static final class Token {
        String text;
        int place;

        boolean isWord() {
            return text.matches("[a-z]{1,6}");
        }

        boolean isNumber() {
            return text.matches("[0-9]{1,9}");
        }
    }

    private List<Token> tokens;
    private int next;

    private static List<Token> cut(String text) {
        List<Token> all = new ArrayList<>();
        java.util.regex.Matcher m = java.util.regex.Pattern
                .compile("[a-z]+|[0-9]+|[ \n]+|.", java.util.regex.Pattern.DOTALL).matcher(text);
        while (m.find()) {
            if (!m.group().matches("[ \n]+")) {
                Token t = new Token();
                t.text = m.group();
                t.place = m.start();
                all.add(t);
            }
        }
        Token end = new Token();
        end.text = "";
        end.place = text.length();
        all.add(end);
        return all;
    }

    private Token peek() {
        return tokens.get(next);
    }

    private Token word() {
        Token t = peek();
        if (!t.isWord()) {
            throw new Stop(1, t.place);
        }
        next++;
        return t;
    }

    private Token number() {
        Token t = peek();
        if (!t.isNumber()) {
            throw new Stop(1, t.place);
        }
        next++;
        return t;
    }

    private Token oneOf(String... texts) {
        Token t = peek();
        if (!Arrays.asList(texts).contains(t.text)) {
            throw new Stop(1, t.place);
        }
        next++;
        return t;
    }

    private void begin() {
        tokens = cut(tape.toString());
        next = 0;
        tape.setLength(0);
        faultKind = 0;
        faultPlace = -1;
    }

    int feed(int a, int b, int c, int d, int e) {
        if (tape.length() > 1180) {
            return -3;
        }
        for (int four : new int[] {a, b, c, d, e}) {
            for (int i = 0; i < 4; i++) {
                tape.append((char) (four >>> (24 - 8 * i) & 255));
            }
        }
        return tape.length();
    }

    int end(int n) {
        if (n < 0 || n > tape.length()) {
            return -1;
        }
        tape.setLength(n);
        return n;
    }

    int drum() {
        begin();
        try {
            readDrum();
        } catch (Stop s) {
            faultKind = s.kind;
            faultPlace = s.place;
            return -1;
        }
        if (there().size() < values.length) {
            values = new int[0];
            entry = 0;
        }
        fresh();
        return there().size();
    }

    private void readDrum() {
        oneOf("words");
        Token n = number();
        int w = Integer.parseInt(n.text);
        if (w < 8 || w > 32) {
            throw new Stop(2, n.place);
        }
        oneOf(";");
        List<int[]> read = new ArrayList<>();
        do {
            Token kind = oneOf("long", "many", "quick");
            if (read.size() == 4) {
                throw new Stop(4, kind.place);
            }
            int[] track = {w, w};
            if (!kind.text.equals("long")) {
                Token size = number();
                int s = Integer.parseInt(size.text);
                boolean many = kind.text.equals("many");
                if (many ? (s != 2 && s != 4) || w % s != 0 : s < 2 || s > 8) {
                    throw new Stop(2, size.place);
                }
                track = many ? new int[] {w / s, w} : new int[] {s, s};
            }
            oneOf(";");
            read.add(track);
        } while (!peek().text.isEmpty());
        words = w;
        tracks = read;
    }

    int program() {
        begin();
        List<String> names = new ArrayList<>();
        List<Object[]> lines = new ArrayList<>();
        try {
            while (!peek().text.isEmpty()) {
                Token name = word();
                if (names.contains(name.text)) {
                    throw new Stop(3, name.place);
                }
                if (names.size() == 40) {
                    throw new Stop(4, name.place);
                }
                names.add(name.text);
                lines.add(oneOf(":", "=").text.equals("=") ? readNumber() : readOrder());
                oneOf(";");
            }
            int[] read = new int[names.size()];
            for (int i = 0; i < read.length; i++) {
                read[i] = valueOf(lines.get(i), i, names);
            }
            if (read.length > there().size()) {
                return -3;
            }
            values = read;
        } catch (Stop s) {
            faultKind = s.kind;
            faultPlace = s.place;
            return -1;
        }
        entry = 0;
        fresh();
        return values.length;
    }

    private Object[] readNumber() {
        boolean minus = peek().text.equals("-");
        if (minus) {
            next++;
        }
        int n = Integer.parseInt(number().text);
        return new Object[] {minus ? -n : n};
    }

    private Object[] readOrder() {
        int op = OPS.indexOf(oneOf(OPS.toArray(new String[0])).text);
        Token w = op >= 1 && op <= 7 ? word() : null;
        Token to = null;
        if (peek().text.equals("to")) {
            next++;
            to = word();
        }
        return new Object[] {op, w, to};
    }

    private static int valueOf(Object[] line, int number, List<String> names) {
        if (line.length == 1) {
            return (Integer) line[0];
        }
        int w = line[1] == null ? 0 : numberOf((Token) line[1], names);
        int last = names.size() - 1;
        int n = line[2] == null ? (number == last ? last : number + 1) : numberOf((Token) line[2], names);
        return 10000 * (Integer) line[0] + 100 * w + n;
    }

    private static int numberOf(Token t, List<String> names) {
        if (!names.contains(t.text)) {
            throw new Stop(5, t.place);
        }
        return names.indexOf(t.text);
    }

    private void fresh() {
        bad = new HashSet<>();
        kept.clear();
        told = null;
        laid = new int[values.length];
        for (int i = 0; i < laid.length; i++) {
            laid[i] = there().get(i);
        }
    }

    private List<Integer> there() {
        List<Integer> spots = new ArrayList<>();
        for (int t = 0; t < tracks.size(); t++) {
            for (int p = 0; p < tracks.get(t)[1]; p++) {
                spots.add(t * words + p);
            }
        }
        return spots;
    }

    int fault(int what) {
        return what == 0 ? faultKind : what == 1 ? faultPlace : -1;
    }

    int told(int what) {
        int[] all = {words, tracks.size(), there().size(), values.length, entry, jobs.size(), tape.length()};
        if (what >= 0 && what < 7) {
            return all[what];
        }
        return what >= 10 && what < 14 && what - 10 < tracks.size() ? tracks.get(what - 10)[0] : -1;
    }

    private boolean named(int name) {
        return name >= 0 && name < values.length;
    }

    int value(int name) {
        return named(name) ? values[name] : NO;
    }

    int set(int name, int v) {
        if (!named(name)) {
            return -2;
        }
        values[name] = v;
        return 1;
    }

    int entry(int name) {
        if (!named(name)) {
            return -2;
        }
        int was = entry;
        entry = name;
        return was;
    }

    // ---- runs

    private boolean wrong(int v) {
        return v < 0 || v / 10000 > 9 || !named(v / 100 % 100) || !named(v % 100);
    }

    private int waitAndRead(Run r, int name, int time) {
        int[] track = tracks.get(laid[name] / words);
        int place = laid[name] % words;
        while (time % track[0] != place % track[0]) {
            time++;
            r.waits[name]++;
        }
        return time + 1;
    }

    private Run go() {
        Run r = new Run();
        int n = values.length;
        r.before = values.clone();
        r.end = values.clone();
        r.waits = new int[n];
        r.at = entry;
        r.how = 2;
        while (r.steps < 2000) {
            int v = r.end[r.at];
            r.time = waitAndRead(r, r.at, r.time);
            r.least++;
            r.readings.add(new int[] {r.steps, r.at, 0});
            r.steps++;
            if (wrong(v)) {
                r.how = 1;
                return r;
            }
            int op = v / 10000;
            int w = v / 100 % 100;
            int to = v % 100;
            if (op >= 1 && op <= 5) {
                r.time = waitAndRead(r, w, r.time);
                r.least++;
                r.readings.add(new int[] {r.steps - 1, w, 1});
            }
            int more = 0;
            if (op == 0) {
                r.how = 0;
                return r;
            } else if (op == 1) {
                r.a = r.end[w];
            } else if (op == 2) {
                r.a = r.a + r.end[w];
            } else if (op == 3) {
                r.a = r.a - r.end[w];
            } else if (op == 4) {
                more = 2 + Integer.toBinaryString(r.end[w]).replace("0", "").length();
                r.a = r.a * r.end[w];
            } else if (op == 5) {
                r.end[w] = r.a;
            } else if (op == 6) {
                to = r.a < 0 ? w : to;
            } else if (op == 7) {
                to = r.a == 0 ? w : to;
            } else if (op == 8) {
                more = 3;
                r.printed.add(r.a);
            } else {
                r.a = r.a / 2;
            }
            r.time += more;
            r.least += more;
            r.at = to;
        }
        return r;
    }

    int run() {
        if (values.length == 0) {
            return -4;
        }
        told = go();
        return told.steps;
    }

    int ran(int what) {
        if (told == null) {
            return NO;
        }
        if (what >= 100 && what <= 199 && what - 100 < told.printed.size()) {
            return told.printed.get(what - 100);
        }
        int[] all = {told.how, told.a, told.at, told.printed.size(), told.time, told.least};
        return what >= 0 && what < 6 ? all[what] : NO;
    }

    private static int count(Run r, int name, int as) {
        int n = 0;
        for (int[] reading : r.readings) {
            n += reading[1] == name && reading[2] == as ? 1 : 0;
        }
        return n;
    }

    /** The first and last step of each name that lives. */
    private static Map<Integer, int[]> lives(Run r) {
        Map<Integer, int[]> lives = new TreeMap<>();
        for (int[] reading : r.readings) {
            lives.putIfAbsent(reading[1], new int[] {reading[0], reading[0]});
            lives.get(reading[1])[1] = reading[0];
        }
        return lives;
    }

    private static Map<Integer, Integer> shares(Run r) {
        Map<Integer, int[]> lives = lives(r);
        List<Integer> order = new ArrayList<>(lives.keySet());
        order.sort((i, j) -> lives.get(i)[0] != lives.get(j)[0]
                ? Integer.compare(lives.get(i)[0], lives.get(j)[0]) : Integer.compare(i, j));
        Map<Integer, Integer> shares = new HashMap<>();
        for (int name : order) {
            Set<Integer> others = new HashSet<>();
            for (int other : shares.keySet()) {
                if (lives.get(other)[1] >= lives.get(name)[0] && lives.get(other)[0] <= lives.get(name)[1]) {
                    others.add(shares.get(other));
                }
            }
            int least = 0;
            while (others.contains(least)) {
                least++;
            }
            shares.put(name, least);
        }
        return shares;
    }

    int of(int name, int what) {
        if (told == null || !named(name) || what < 0 || what > 7) {
            return NO;
        }
        int[] life = lives(told).getOrDefault(name, new int[] {-1, -1});
        int changed = told.end[name] != told.before[name] ? 1 : 0;
        int[] all = {count(told, name, 0), count(told, name, 1), told.waits[name], told.end[name],
            life[0], life[1], changed, shares(told).getOrDefault(name, -1)};
        return all[what];
    }

    int needed() {
        if (told == null) {
            return 0;
        }
        int most = 0;
        for (int step = 0; step < told.steps; step++) {
            int living = 0;
            for (int[] life : lives(told).values()) {
                living += life[0] <= step && step <= life[1] ? 1 : 0;
            }
            most = Math.max(most, living);
        }
        return most;
    }

    // ---- layings

    private int lyingOn(int spot) {
        for (int i = 0; i < laid.length; i++) {
            if (laid[i] == spot) {
                return i;
            }
        }
        return -1;
    }

    int spot(int name) {
        return named(name) ? laid[name] : -2;
    }

    int lay(int name, int spot) {
        if (!named(name) || !there().contains(spot)) {
            return -2;
        }
        if (bad.contains(spot) || (lyingOn(spot) != -1 && lyingOn(spot) != name)) {
            return -4;
        }
        int was = laid[name];
        laid[name] = spot;
        return was;
    }

    int spoil(int spot) {
        if (!there().contains(spot)) {
            return -2;
        }
        return bad.add(spot) ? lyingOn(spot) : -4;
    }

    int time() {
        return values.length == 0 ? -4 : go().time;
    }

    int place(int name) {
        if (!named(name)) {
            return -2;
        }
        int own = laid[name];
        int best = -1;
        int least = Integer.MAX_VALUE;
        for (int spot : there()) {
            boolean free = spot == own || lyingOn(spot) == -1;
            if (free && !bad.contains(spot)) {
                laid[name] = spot;
                int time = go().time;
                laid[name] = own;
                if (time < least) {
                    least = time;
                    best = spot;
                }
            }
        }
        return best;
    }

    int mend() {
        if (values.length == 0) {
            return -4;
        }
        int moved = 0;
        for (int i = 0; i < laid.length; i++) {
            if (bad.contains(laid[i])) {
                int spot = place(i);
                if (spot != -1) {
                    laid[i] = spot;
                    moved++;
                }
            }
        }
        return moved;
    }

    private void swap(int i, int j) {
        int spot = laid[i];
        laid[i] = laid[j];
        laid[j] = spot;
    }

    int exchange() {
        if (values.length == 0) {
            return -4;
        }
        boolean changed = true;
        for (int round = 1; round <= 20 && changed; round++) {
            changed = false;
            for (int i = 0; i < laid.length; i++) {
                for (int j = i + 1; j < laid.length; j++) {
                    if (bad.contains(laid[i]) || bad.contains(laid[j])) {
                        continue;
                    }
                    int before = go().time;
                    swap(i, j);
                    if (go().time < before) {
                        changed = true;
                    } else {
                        swap(i, j);
                    }
                }
            }
        }
        return go().time;
    }

    int best(long set) {
        List<Integer> names = new ArrayList<>();
        for (int i = 0; i < 64; i++) {
            if ((set >>> i & 1) == 1) {
                names.add(i);
            }
        }
        if (names.isEmpty() || names.size() > 6 || !named(names.get(names.size() - 1))) {
            return -2;
        }
        List<Integer> spots = new ArrayList<>();
        for (int name : names) {
            if (bad.contains(laid[name])) {
                return -4;
            }
            spots.add(laid[name]);
        }
        List<List<Integer>> rows = new ArrayList<>();
        allRows(spots, new ArrayList<>(), rows);
        List<Integer> best = null;
        int least = 0;
        for (List<Integer> row : rows) {
            putRow(names, row);
            int time = go().time;
            if (best == null || time < least || (time == least && isLess(row, best))) {
                best = row;
                least = time;
            }
        }
        putRow(names, best);
        return least;
    }

    private static void allRows(List<Integer> spots, List<Integer> begun, List<List<Integer>> rows) {
        if (begun.size() == spots.size()) {
            rows.add(new ArrayList<>(begun));
        }
        for (Integer spot : spots) {
            if (!begun.contains(spot)) {
                begun.add(spot);
                allRows(spots, begun, rows);
                begun.remove(begun.size() - 1);
            }
        }
    }

    private void putRow(List<Integer> names, List<Integer> row) {
        for (int i = 0; i < row.size(); i++) {
            laid[names.get(i)] = row.get(i);
        }
    }

    private static boolean isLess(List<Integer> one, List<Integer> other) {
        for (int i = 0; i < one.size(); i++) {
            if (!one.get(i).equals(other.get(i))) {
                return one.get(i) < other.get(i);
            }
        }
        return false;
    }

    int keep(int slot) {
        if (slot < 0 || slot > 3) {
            return -2;
        }
        if (values.length == 0) {
            return -4;
        }
        kept.put(slot, laid.clone());
        return 1;
    }

    int take(int slot) {
        if (slot < 0 || slot > 3) {
            return -2;
        }
        if (!kept.containsKey(slot)) {
            return -4;
        }
        for (int spot : kept.get(slot)) {
            if (bad.contains(spot)) {
                return -4;
            }
        }
        laid = kept.get(slot).clone();
        return go().time;
    }

    // ---- questions

    int longest(int name, int from, int to, int what) {
        if (!named(name) || from > to || (long) to - (long) from > 100L) {
            return -2;
        }
        if (what < 0 || what > 1) {
            return -1;
        }
        int was = values[name];
        TreeMap<Integer, Integer> leastWith = new TreeMap<>();
        for (long v = from; v <= to; v++) {
            values[name] = (int) v;
            Run r = go();
            if (r.how == 0) {
                leastWith.putIfAbsent(r.time, (int) v);
            }
        }
        values[name] = was;
        if (leastWith.isEmpty()) {
            return -4;
        }
        return what == 0 ? leastWith.lastKey() : leastWith.lastEntry().getValue();
    }

    int step(int n, int gap) {
        if (n < 2 || n > 32 || gap < 1 || gap > 1000) {
            return -2;
        }
        int best = -1;
        int least = Integer.MAX_VALUE;
        for (int s = 1; s < words; s++) {
            Set<Integer> places = new HashSet<>();
            for (int i = 0; i < n; i++) {
                places.add(i * s % words);
            }
            int wait = 0;
            while ((gap + wait) % words != s) {
                wait++;
            }
            if (places.size() == n && wait < least) {
                least = wait;
                best = s;
            }
        }
        return best;
    }

    int known(int name) {
        if (!named(name)) {
            return -2;
        }
        Set<Integer> orders = new HashSet<>();
        Set<Integer> numbers = new HashSet<>();
        Set<Integer> wanted = new HashSet<>(Arrays.asList(entry));
        for (int round = 0; round < 100; round++) {
            for (int i : new ArrayList<>(wanted)) {
                int v = values[i];
                if (wrong(v)) {
                    continue;
                }
                orders.add(i);
                int op = v / 10000;
                if (op != 0) {
                    wanted.add(v % 100);
                }
                if (op == 6 || op == 7) {
                    wanted.add(v / 100 % 100);
                }
                if (op >= 1 && op <= 5) {
                    numbers.add(v / 100 % 100);
                }
            }
        }
        return (orders.contains(name) ? 1 : 0) + (numbers.contains(name) ? 2 : 0);
    }

    int job(int time, int due) {
        if (time < 1 || time > 9999 || due < 1 || due > 99999) {
            return -2;
        }
        if (jobs.size() == 8) {
            return -3;
        }
        jobs.add(new int[] {time, due});
        return jobs.size() - 1;
    }

    private int timeOf(int set) {
        int time = 0;
        for (int i = 0; i < jobs.size(); i++) {
            time += (set >> i & 1) == 1 ? jobs.get(i)[0] : 0;
        }
        return time;
    }

    /** Whether some one of the set can be its last, and the others can be done ahead of it. */
    private boolean canBeDone(int set) {
        if (set == 0) {
            return true;
        }
        for (int i = 0; i < jobs.size(); i++) {
            if ((set >> i & 1) == 1 && timeOf(set) <= jobs.get(i)[1] && canBeDone(set & ~(1 << i))) {
                return true;
            }
        }
        return false;
    }

    int night() {
        int best = 0;
        for (int set = 1; set < 1 << jobs.size(); set++) {
            int more = Integer.bitCount(set) - Integer.bitCount(best);
            if (canBeDone(set) && (more > 0 || (more == 0 && timeOf(set) < timeOf(best)))) {
                best = set;
            }
        }
        return best;
    }
}
