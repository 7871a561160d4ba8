import java.nio.charset.StandardCharsets;

/** What the tests share: comparing answers, and telling texts to an object. */
final class Checks {
    static final int NO_NUMBER = -2147483647;

    private final String title;
    /** What is printed ahead of a wrong answer: the test, and the sentence that it is of. */
    private String heading;
    private int sentences;
    private int done;
    private int wrong;

    Checks(String title) {
        this.title = title;
        heading = title;
    }

    /**
     * A test of one sentence of the document, told by its promise and its own words. With -Dlist=yes
     * it is named only: Broken wants to know which sentences there are.
     */
    void edge(int promise, String words, Runnable test) {
        sentences++;
        heading = title + ", promise " + promise + ", '" + words + "'";
        if (System.getProperty("list") != null) {
            done++;
            System.out.println("sentence of promise " + promise + ": " + words);
            return;
        }
        int before = done;
        try {
            test.run();
        } catch (RuntimeException thrown) {
            wrong++;
            System.out.println(heading + ": threw " + thrown);
        }
        if (done == before) {
            wrong++;
            System.out.println(heading + ": checks nothing");
        }
        heading = title;
    }

    void due(String call, long got, long want) {
        done++;
        if (got != want) {
            wrong++;
            System.out.println(heading + ": " + call + " answered " + got + ", due is " + want);
        }
    }

    /** Ends the test: with exit code 1 if an answer was not the one that is due. */
    void finish() {
        String of = sentences == 0 ? "" : sentences + " sentences, ";
        System.out.println(title + ": " + of + done + " checks, " + wrong + " wrong");
        if (wrong != 0 || done == 0) {
            System.exit(1);
        }
    }

    int wrongs() {
        return wrong;
    }

    static void onTape(DrumCoder x, String text) {
        x.end(0);
        byte[] bytes = text.getBytes(StandardCharsets.ISO_8859_1);
        for (int from = 0; from < bytes.length; from += 20) {
            x.feed(four(bytes, from), four(bytes, from + 4), four(bytes, from + 8),
                    four(bytes, from + 12), four(bytes, from + 16));
        }
        x.end(bytes.length);
    }

    private static int four(byte[] bytes, int from) {
        int all = 0;
        for (int i = from; i < from + 4; i++) {
            all = all << 8 | (i < bytes.length ? bytes[i] & 255 : 'Q');
        }
        return all;
    }

    static int drum(DrumCoder x, String text) {
        onTape(x, text);
        return x.drum();
    }

    static int program(DrumCoder x, String text) {
        onTape(x, text);
        return x.program();
    }

    /** So many lines, each with its number: aa=0; ab=1; .. */
    static String numbers(int count) {
        StringBuilder text = new StringBuilder();
        for (int i = 0; i < count; i++) {
            text.append((char) ('a' + i / 26)).append((char) ('a' + i % 26)).append('=').append(i).append(';');
        }
        return text.toString();
    }

    static DrumCoder with(String program) {
        DrumCoder x = new DrumCoder();
        program(x, program);
        return x;
    }

    static DrumCoder with(String drum, String program) {
        DrumCoder x = new DrumCoder();
        drum(x, drum);
        program(x, program);
        return x;
    }

    /** A drum text that is refused: its fault's kind and place. */
    void drumFault(String text, int kind, int place) {
        DrumCoder x = new DrumCoder();
        due("drum() of '" + text + "'", drum(x, text), DrumCoder.NONE);
        due("fault(0) of '" + text + "'", x.fault(0), kind);
        due("fault(1) of '" + text + "'", x.fault(1), place);
        due("told(0) behind '" + text + "'", x.told(0), 16);
        due("told(6) behind '" + text + "'", x.told(6), 0);
    }

    void drumTold(String text, int spots) {
        DrumCoder x = new DrumCoder();
        due("drum() of '" + text + "'", drum(x, text), spots);
        due("fault(0) of '" + text + "'", x.fault(0), 0);
        due("fault(1) of '" + text + "'", x.fault(1), DrumCoder.NONE);
    }

    void programFault(String text, int kind, int place) {
        DrumCoder x = with("keep: stop;");
        due("program() of '" + text + "'", program(x, text), DrumCoder.NONE);
        due("fault(0) of '" + text + "'", x.fault(0), kind);
        due("fault(1) of '" + text + "'", x.fault(1), place);
        due("told(3) behind '" + text + "'", x.told(3), 1);
        due("told(6) behind '" + text + "'", x.told(6), 0);
    }

    void programTold(String text, int... values) {
        DrumCoder x = new DrumCoder();
        drum(x, "words 32; long; long;");
        due("program() of '" + text + "'", program(x, text), values.length);
        due("fault(0) of '" + text + "'", x.fault(0), 0);
        due("fault(1) of '" + text + "'", x.fault(1), DrumCoder.NONE);
        for (int i = 0; i < values.length; i++) {
            due("value(" + i + ") of '" + text + "'", x.value(i), values[i]);
        }
    }
}
