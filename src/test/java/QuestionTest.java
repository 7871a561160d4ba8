/** Promises 25 to 29: the longest run, a table's step, what is known by words, jobs and nights. */
public final class QuestionTest {
    private static final Checks c = new Checks("QuestionTest");

    public static void main(String[] args) {
        longestRuns();
        longestRefused();
        tableSteps();
        knownWords();
        jobs();
        nights();
        c.finish();
    }

    private static void longestRuns() {
        // counts n down to 0; with n below 0 it is late
        DrumCoder x = Checks.with("a:load n;b:zero e;c:less one;d:store n to b;e:stop;n=3;one=1;");
        x.set(5, 9);
        int nine = x.time();
        x.set(5, 3);
        c.due("longest(5, 0, 9, 0)", x.longest(5, 0, 9, 0), nine);
        c.due("longest(5, 0, 9, 1)", x.longest(5, 0, 9, 1), 9);
        c.due("longest(5, -50, 9, 0): those below 0 don't stop", x.longest(5, -50, 9, 0), nine);
        c.due("longest(5, -91, 9, 1): just 100 apart", x.longest(5, -91, 9, 1), 9);
        c.due("longest(5, -92, 9, 1): 101 apart", x.longest(5, -92, 9, 1), -2);
        c.due("value(5) stays", x.value(5), 3);
        c.due("longest(5, 3, 3, 0)", x.longest(5, 3, 3, 0), x.time());
        c.due("longest(5, -9, -1, 0)", x.longest(5, -9, -1, 0), -4);
        c.due("longest(5, -9, -1, 1)", x.longest(5, -9, -1, 1), -4);
        c.due("longest(5, -9, 0, 1)", x.longest(5, -9, 0, 1), 0);
        // bits that are 1 take time: 7 is the least of the three-bit ones
        DrumCoder y = Checks.with("a:times w to b;b:stop;w=0;");
        y.lay(1, 31);
        y.lay(2, 17);
        c.due("longest(2, 0, 14, 1): all wait for b alike", y.longest(2, 0, 14, 1), 0);
        Checks.drum(y, "words 8;quick 2;quick 2;");
        // a 0..1, w 2..3, times to 8 with three bits, b waits to 9..10
        c.due("longest(2, 0, 14, 0)", y.longest(2, 0, 14, 0), 10);
        c.due("longest(2, 0, 14, 1)", y.longest(2, 0, 14, 1), 7);
        c.due("longest(2, 0, 6, 1): one bit and two take the same", y.longest(2, 0, 6, 1), 1);
        // a value of an order: most are wrong ones, that count for nothing
        DrumCoder z = Checks.with("a:stop;b=0;c=1;");
        c.due("longest(0, -50, 50, 0)", z.longest(0, -50, 50, 0), 1);
        c.due("longest(0, -50, 50, 1)", z.longest(0, -50, 50, 1), 0);
        c.due("longest(0, -50, -1, 0)", z.longest(0, -50, -1, 0), -4);
        c.due("longest(2, MIN, MIN + 100, 1)",
                z.longest(2, Integer.MIN_VALUE, Integer.MIN_VALUE + 100, 1), Integer.MIN_VALUE);
        c.due("longest(2, MAX - 100, MAX, 1)",
                z.longest(2, Integer.MAX_VALUE - 100, Integer.MAX_VALUE, 1), Integer.MAX_VALUE - 100);
        c.due("value(2) stays", z.value(2), 1);
    }

    private static void longestRefused() {
        DrumCoder x = Checks.with("a:stop;b=0;");
        c.due("longest(2, 0, 0, 0)", x.longest(2, 0, 0, 0), -2);
        c.due("longest(-1, 0, 0, 0)", x.longest(-1, 0, 0, 0), -2);
        c.due("longest(1, 1, 0, 0)", x.longest(1, 1, 0, 0), -2);
        c.due("longest(1, 0, 101, 0)", x.longest(1, 0, 101, 0), -2);
        c.due("longest(1, 0, 100, 0)", x.longest(1, 0, 100, 0), 1);
        c.due("longest(1, MIN, MAX, 0)", x.longest(1, Integer.MIN_VALUE, Integer.MAX_VALUE, 0), -2);
        c.due("longest(1, MAX, MIN, 0)", x.longest(1, Integer.MAX_VALUE, Integer.MIN_VALUE, 0), -2);
        c.due("longest(1, 0, 1, 2)", x.longest(1, 0, 1, 2), -1);
        c.due("longest(1, 0, 1, -1)", x.longest(1, 0, 1, -1), -1);
        x.set(0, -1);
        c.due("longest(1, 0, 1, 0): none stops", x.longest(1, 0, 1, 0), -4);
        c.due("longest(1, 0, 1, 2): no such what", x.longest(1, 0, 1, 2), -1);
        c.due("longest(0, 0, 0, 0) without names", new DrumCoder().longest(0, 0, 0, 0), -2);
    }

    private static void tableSteps() {
        DrumCoder x = new DrumCoder();
        c.due("step(2, 1)", x.step(2, 1), 1);
        c.due("step(2, 16): a step of 16 is none", x.step(2, 16), 1);
        c.due("step(2, 15)", x.step(2, 15), 15);
        c.due("step(2, 8)", x.step(2, 8), 8);
        c.due("step(3, 8)", x.step(3, 8), 9);
        c.due("step(4, 4)", x.step(4, 4), 4);
        c.due("step(5, 12)", x.step(5, 12), 13);
        c.due("step(16, 16)", x.step(16, 16), 1);
        c.due("step(16, 1000): 1000 is 8 round the drum", x.step(16, 1000), 9);
        c.due("step(2, 1000)", x.step(2, 1000), 8);
        c.due("step(17, 3)", x.step(17, 3), -1);
        c.due("step(32, 3)", x.step(32, 3), -1);
        c.due("step(33, 3)", x.step(33, 3), -2);
        c.due("step(1, 3)", x.step(1, 3), -2);
        c.due("step(0, 3)", x.step(0, 3), -2);
        c.due("step(2, 0)", x.step(2, 0), -2);
        c.due("step(2, 1001)", x.step(2, 1001), -2);
        c.due("step(-5, -5)", x.step(-5, -5), -2);
        c.due("step(MAX, MAX)", x.step(Integer.MAX_VALUE, Integer.MAX_VALUE), -2);
        Checks.drum(x, "words 32;long;");
        c.due("step(32, 6) of 32", x.step(32, 6), 7);
        c.due("step(32, 32) of 32", x.step(32, 32), 1);
        Checks.drum(x, "words 13;long;");
        c.due("step(13, 12) of 13", x.step(13, 12), 12);
        c.due("step(13, 13) of 13", x.step(13, 13), 1);
        c.due("step(14, 13) of 13", x.step(14, 13), -1);
    }

    private static void kinds(DrumCoder x, int... due) {
        for (int i = 0; i < due.length; i++) {
            c.due("known(" + i + ")", x.known(i), due[i]);
        }
        c.due("known behind the last", x.known(due.length), -2);
        c.due("known(-1)", x.known(-1), -2);
    }

    private static void knownWords() {
        DrumCoder x = Checks.with("a:load f;b:neg d;c:stop to h;d:zero e to b;e=-1;f=1;g:stop;h:stop;");
        kinds(x, 1, 1, 1, 1, 0, 2, 0, 0);
        // a loaded and stored order is both; one that is wrong is a number alone
        DrumCoder y = Checks.with("a:load c;b:add e;c:store c to d;d:times e;e=-7;f:stop;");
        kinds(y, 1, 1, 3, 1, 2, 0);
        // a number that could be an order is one only if the orders come to it
        DrumCoder z = Checks.with("a:less c;b:print to d;c=0;d:halve to c;");
        kinds(z, 1, 1, 3, 1);
        z.entry(2);
        kinds(z, 0, 0, 1, 0);
        z.set(2, 10304);
        kinds(z, 0, 0, 0, 0);
        z.set(2, 50302);
        kinds(z, 0, 0, 1, 2);
        z.set(2, 90000);
        kinds(z, 1, 1, 3, 1);
        // w of print, halve and stop is nothing
        DrumCoder w = Checks.with("a=80201;b=90202;c=301;d=1;");
        kinds(w, 1, 1, 1, 0);
        // both ways of a neg, and a chain through all names
        DrumCoder v = Checks.with("a:neg c to d;b:stop;c:zero b to c;d:neg e to d;e:stop;");
        kinds(v, 1, 1, 1, 1, 1);
        c.due("known(0) without names", new DrumCoder().known(0), -2);
    }

    private static void jobs() {
        DrumCoder x = new DrumCoder();
        c.due("night() without jobs", x.night(), 0);
        c.due("job(0, 5)", x.job(0, 5), -2);
        c.due("job(10000, 5)", x.job(10000, 5), -2);
        c.due("job(5, 0)", x.job(5, 0), -2);
        c.due("job(5, 100000)", x.job(5, 100000), -2);
        c.due("told(5)", x.told(5), 0);
        c.due("job(9999, 99999)", x.job(9999, 99999), 0);
        c.due("job(1, 1)", x.job(1, 1), 1);
        for (int i = 2; i < 8; i++) {
            c.due("job number " + i, x.job(i, i), i);
        }
        c.due("the ninth job", x.job(1, 1), -3);
        c.due("the ninth job, and wrong", x.job(0, 1), -2);
        c.due("told(5)", x.told(5), 8);
        c.due("night()", x.night(), 3);
    }

    private static void night(int due, int... timesAndDues) {
        DrumCoder x = new DrumCoder();
        for (int i = 0; i < timesAndDues.length; i += 2) {
            x.job(timesAndDues[i], timesAndDues[i + 1]);
        }
        c.due("night() of " + java.util.Arrays.toString(timesAndDues), x.night(), due);
        c.due("night() again", x.night(), due);
    }

    private static void nights() {
        night(0, 5, 4);
        night(1, 5, 5);
        night(0, 5, 4, 7, 6);
        night(3, 5, 10, 5, 5);
        night(3, 5, 5, 5, 10);
        night(1, 5, 9, 5, 5);
        night(2, 5, 5, 4, 4);
        night(1, 4, 4, 5, 5);
        night(1, 4, 4, 4, 4);
        night(6, 5, 5, 3, 4, 2, 9);
        night(7, 1, 3, 1, 2, 1, 1);
        night(255, 1, 8, 1, 7, 1, 6, 1, 5, 1, 4, 1, 3, 1, 2, 1, 1);
        night(14, 9, 9, 2, 9, 3, 9, 4, 9);
        night(5, 3, 6, 4, 6, 3, 6);
        night(3, 3, 6, 3, 6, 3, 6);
        // most jobs come ahead of the least time
        night(6, 4, 4, 2, 2, 3, 5);
        night(5, 1, 1, 9, 9, 9, 18);
        DrumCoder x = new DrumCoder();
        x.job(2, 2);
        Checks.program(x, "a:stop;");
        Checks.drum(x, "words 8;long;");
        c.due("night() behind a program and a drum", x.night(), 1);
    }
}
