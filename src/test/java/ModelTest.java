import java.nio.charset.StandardCharsets;

/** Long rows of calls on an object and on the model: all answers are the same. */
public final class ModelTest {
    private static final Checks c = new Checks("ModelTest");
    private static final String[] OPS = {
        "stop", "load", "add", "less", "times", "store", "neg", "zero", "print", "halve"};
    private static final int[] EDGES = {
        Integer.MIN_VALUE, Integer.MIN_VALUE + 1, -10000, -101, -3, -2, -1, 0, 1, 2, 3, 4, 5, 7, 8, 10, 13, 14,
        16, 20, 31, 32, 39, 40, 41, 63, 64, 99, 100, 101, 127, 128, 199, 200, 1200, 1201, 10000, 99999, 100000,
        Integer.MAX_VALUE - 1, Integer.MAX_VALUE};

    private static long state = 20261116L;

    private DrumCoder x = new DrumCoder();
    private Model m = new Model();

    public static void main(String[] args) {
        for (int round = 0; round < 400 && c.wrongs() < 20; round++) {
            new ModelTest().oneObject();
        }
        c.finish();
    }

    /** The same numbers in every run of the test. */
    private static int below(int bound) {
        state = state * 6364136223846793005L + 1442695040888963407L;
        return (int) Long.remainderUnsigned(state >>> 33, bound);
    }

    private void oneObject() {
        int calls = 0;
        if (below(3) > 0) {
            tell(drumText(), true);
        }
        tell(programText(), false);
        while (calls < 60) {
            oneCall();
            calls++;
        }
        for (int i = -1; i < 41; i++) {
            c.due("spot(" + i + ") at the end", x.spot(i), m.spot(i));
            c.due("value(" + i + ") at the end", x.value(i), m.value(i));
        }
    }

    private void tell(String text, boolean isDrum) {
        byte[] bytes = text.getBytes(StandardCharsets.ISO_8859_1);
        for (int from = 0; from < bytes.length; from += 20) {
            int[] five = new int[5];
            for (int i = 0; i < 20; i++) {
                int sign = from + i < bytes.length ? bytes[from + i] & 255 : ' ';
                five[i / 4] = five[i / 4] << 8 | sign;
            }
            c.due("feed", x.feed(five[0], five[1], five[2], five[3], five[4]),
                    m.feed(five[0], five[1], five[2], five[3], five[4]));
        }
        if (below(4) > 0) {
            c.due("end", x.end(bytes.length), m.end(bytes.length));
        }
        String call = (isDrum ? "drum() of " : "program() of ") + text;
        c.due(call, isDrum ? x.drum() : x.program(), isDrum ? m.drum() : m.program());
        for (int i = 0; i < 3; i++) {
            c.due("fault(" + i + ") of " + call, x.fault(i), m.fault(i));
        }
        for (int i = -1; i < 16; i++) {
            c.due("told(" + i + ") behind " + call, x.told(i), m.told(i));
        }
    }

    private static String blank() {
        String[] blanks = {"", "", "", " ", " ", "\n", "  "};
        return blanks[below(blanks.length)];
    }

    private static String spoiled(String text, int often) {
        if (below(often) > 0 || text.isEmpty()) {
            return text;
        }
        int at = below(text.length());
        String signs = ":;=-az09 A\u00ff\n";
        String sign = String.valueOf(signs.charAt(below(signs.length())));
        switch (below(4)) {
            case 0:
                return text.substring(0, at) + sign + text.substring(at);
            case 1:
                return text.substring(0, at) + text.substring(at + 1);
            case 2:
                return text.substring(0, at);
            default:
                return text.substring(0, at) + sign + text.substring(at + 1);
        }
    }

    private static String drumText() {
        int[] sizes = {8, 9, 12, 16, 16, 20, 24, 32, 7, 33};
        StringBuilder text = new StringBuilder("words");
        text.append(blank()).append(below(6) == 0 ? below(40) : sizes[below(8)]).append(blank()).append(';');
        int tracks = 1 + below(below(8) == 0 ? 5 : 4);
        for (int i = 0; i < tracks; i++) {
            int kind = below(3);
            text.append(blank()).append(kind == 0 ? "long" : kind == 1 ? "many" : "quick").append(blank());
            if (kind == 1) {
                text.append(below(10) == 0 ? below(6) : 2 + 2 * below(2));
            } else if (kind == 2) {
                text.append(below(10) == 0 ? below(11) : 2 + below(7));
            }
            text.append(blank()).append(';');
        }
        return spoiled(text.toString(), 6);
    }

    private static String name(int i) {
        String[] odd = {"to", "load", "stop", "words", "abcdef"};
        return i < odd.length ? odd[i] : "n" + (char) ('a' + i % 26) + (i < 26 ? "" : "x");
    }

    private static String programText() {
        int names = below(10) == 0 ? 1 + below(42) : 2 + below(11);
        int orders = 1 + below(names);
        StringBuilder text = new StringBuilder();
        for (int i = 0; i < names; i++) {
            text.append(name(below(60) == 0 ? below(names) : i)).append(blank());
            if (i >= orders) {
                text.append('=').append(blank()).append(below(4) == 0 ? "-" : "").append(someNumber(names));
            } else {
                int op = i == orders - 1 && below(3) > 0 ? 0 : below(10);
                text.append(':').append(blank()).append(OPS[op]);
                if (op >= 1 && op <= 7) {
                    text.append(' ').append(name(below(50) == 0 ? names : target(op, names, orders)));
                }
                if (below(4) == 0) {
                    text.append(" to ").append(name(below(50) == 0 ? names : below(orders)));
                }
            }
            text.append(blank()).append(';');
            text.append(blank());
        }
        return spoiled(text.toString(), 8);
    }

    private static int target(int op, int names, int orders) {
        if (op >= 6) {
            return below(orders);
        }
        return below(6) == 0 || names == orders ? below(names) : orders + below(names - orders);
    }

    private static int someNumber(int names) {
        switch (below(5)) {
            case 0:
                return below(1000000000);
            case 1:
                return 10000 * below(10) + 100 * below(names) + below(names);
            case 2:
                return 100;
            default:
                return below(9);
        }
    }

    private static int any() {
        return below(3) == 0 ? EDGES[below(EDGES.length)] : below(20);
    }

    private static int anyName(int names) {
        return below(15) == 0 || names == 0 ? any() : below(names);
    }

    private void oneCall() {
        int names = m.told(3);
        int i = anyName(names);
        int n = any();
        int spots = Math.max(1, m.told(0) * m.told(1));
        switch (below(24)) {
            case 0:
                c.due("value", x.value(i), m.value(i));
                break;
            case 1:
                int v = below(2) == 0 ? any() : someNumber(Math.max(1, names));
                c.due("set", x.set(i, v), m.set(i, v));
                break;
            case 2:
                int e = below(2) == 0 ? 0 : i;
                c.due("entry", x.entry(e), m.entry(e));
                break;
            case 3:
            case 4:
                c.due("run", x.run(), m.run());
                askRun(names);
                break;
            case 5:
                c.due("ran", x.ran(n), m.ran(n));
                c.due("of", x.of(i, n), m.of(i, n));
                break;
            case 6:
                c.due("needed", x.needed(), m.needed());
                break;
            case 7:
            case 8:
            case 9:
                int to = below(15) == 0 ? n : below(spots);
                c.due("lay", x.lay(i, to), m.lay(i, to));
                break;
            case 10:
            case 11:
                int spot = below(15) == 0 ? n : below(spots);
                c.due("spoil", x.spoil(spot), m.spoil(spot));
                break;
            case 12:
                c.due("time", x.time(), m.time());
                break;
            case 13:
                c.due("place", x.place(i), m.place(i));
                break;
            case 14:
                c.due("mend", x.mend(), m.mend());
                break;
            default:
                oneMore(names, i, n);
        }
    }

    private void oneMore(int names, int i, int n) {
        switch (below(10)) {
            case 0:
                if (below(3) == 0 && names < 14) {
                    c.due("exchange", x.exchange(), m.exchange());
                }
                break;
            case 1:
                long set = below(10) == 0 ? (long) any() << below(40) : below(1 << Math.min(7, Math.max(1, names)));
                c.due("best", x.best(set), m.best(set));
                break;
            case 2:
                int slot = below(8) == 0 ? n : below(4);
                c.due("keep", x.keep(slot), m.keep(slot));
                break;
            case 3:
                int from = below(8) == 0 ? n : below(4);
                c.due("take", x.take(from), m.take(from));
                break;
            case 4:
                int first = below(3) == 0 ? n : below(30) - 10;
                int last = below(6) == 0 ? any() : first + below(12);
                int what = below(10) == 0 ? n : below(2);
                c.due("longest", x.longest(i, first, last, what), m.longest(i, first, last, what));
                break;
            case 5:
                int many = below(6) == 0 ? n : 2 + below(12);
                int gap = below(6) == 0 ? any() : 1 + below(80);
                c.due("step", x.step(many, gap), m.step(many, gap));
                break;
            case 6:
                for (int k = -1; k <= names; k++) {
                    c.due("known", x.known(k), m.known(k));
                }
                break;
            case 7:
                int time = below(8) == 0 ? n : 1 + below(12);
                int due = below(8) == 0 ? any() : 1 + below(30);
                c.due("job", x.job(time, due), m.job(time, due));
                break;
            case 8:
                c.due("night", x.night(), m.night());
                break;
            default:
                if (below(12) == 0) {
                    tell(drumText(), true);
                } else if (below(8) == 0) {
                    tell(programText(), false);
                }
        }
    }

    private void askRun(int names) {
        for (int what = -1; what < 7; what++) {
            c.due("ran(" + what + ")", x.ran(what), m.ran(what));
        }
        for (int what = 98; what < 110; what++) {
            c.due("ran(" + what + ")", x.ran(what), m.ran(what));
        }
        int name = names == 0 ? 0 : below(names);
        for (int what = -1; what < 9; what++) {
            c.due("of(" + name + ", " + what + ")", x.of(name, what), m.of(name, what));
        }
    }
}
