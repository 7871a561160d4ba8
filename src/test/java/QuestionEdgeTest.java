/** The edges that promises 25 to 29 name, with the terms of tables, of what is known by words, and of nights. */
public final class QuestionEdgeTest {
    private static final Checks c = new Checks("QuestionEdgeTest");
    private static final int MIN = Integer.MIN_VALUE;
    private static final int MAX = Integer.MAX_VALUE;

    public static void main(String[] args) {
        longestRuns();
        tables();
        knownWords();
        nights();
        c.finish();
    }

    private static void longestRuns() {
        c.edge(25, "with a NAME's VALUE from .. to (at most 100 apart)", QuestionEdgeTest::hundredApart);
        c.edge(25, "The longest TIME of RUNS with a NAME's VALUE from .. to", QuestionEdgeTest::bothEndsCount);
        c.edge(25, "1: the least VALUE with it", QuestionEdgeTest::leastValueWithIt);
        c.edge(25, "1: the least VALUE with it; RANGE", QuestionEdgeTest::longestOfNoName);
        c.edge(25, "RANGE (NONE for what)", QuestionEdgeTest::noSuchWhat);
        c.edge(25, "STATE: no RUN of these stops", QuestionEdgeTest::noneStops);
        c.edge(25, "(Only RUNS that stop count.)", QuestionEdgeTest::onlyThoseThatStop);
    }

    private static void tables() {
        c.edge(26, "STEP of a TABLE of n words (2 .. 32) by a gap", QuestionEdgeTest::wordsOfATable);
        c.edge(26, "gap word times (1 .. 1000)", QuestionEdgeTest::gaps);
        c.edge(26, "each so many places (1 .. words less 1) behind the one ahead of it", QuestionEdgeTest::placesApart);
        c.edge(26, "all on unlike places", QuestionEdgeTest::unlikePlaces);
        c.edge(26, "the places apart for which the waiting for one is least", QuestionEdgeTest::leastWaiting);
        c.edge(26, "none if no STEP keeps them unlike", QuestionEdgeTest::noStep);
    }

    private static void knownWords() {
        c.edge(27, "KNOWN only by words: 0 .. 3; RANGE", QuestionEdgeTest::knownOfNoName);
        c.edge(27, "from the ENTRY on, each VALUE (as it is now) that is no WRONG one is an ORDER's",
                QuestionEdgeTest::valuesAsTheyAreNow);
        c.edge(27, "so is that of its next (not of stop)", QuestionEdgeTest::notBehindAStop);
        c.edge(27, "and of neg and zero also that of its W, if it is no WRONG one", QuestionEdgeTest::bothWays);
        c.edge(27, "W of load, add, less, times, store is a NUMBER", QuestionEdgeTest::numbersByFive);
        c.edge(27, "A NAME is 0 neither, 1 an ORDER, 2 a NUMBER, 3 both", QuestionEdgeTest::fourKinds);
    }

    private static void nights() {
        c.edge(28, "A JOB, time 1 .. 9999", QuestionEdgeTest::jobTimes);
        c.edge(28, "due 1 .. 99999: its number; RANGE", QuestionEdgeTest::jobDues);
        c.edge(28, "at most 8 JOBS, numbered from 0", QuestionEdgeTest::jobNumbers);
        c.edge(28, "RANGE; FULL", QuestionEdgeTest::ninthJob);
        c.edge(29, "The NIGHT's set (0 without JOBS)", QuestionEdgeTest::noJobs);
        c.edge(29, "of which all can be done by their dues, one behind the other from 0 on", QuestionEdgeTest::byTheirDues);
        c.edge(29, "that has most JOBS", QuestionEdgeTest::mostJobs);
        c.edge(29, "then the least time in all", QuestionEdgeTest::leastTimeInAll);
        c.edge(29, "then the least set (bits)", QuestionEdgeTest::leastSet);
    }

    private static void hundredApart() {
        DrumCoder x = Checks.with("a:stop;b=0;");
        c.due("longest(1, 0, 99, 0)", x.longest(1, 0, 99, 0), 1);
        c.due("longest(1, 0, 100, 0)", x.longest(1, 0, 100, 0), 1);
        c.due("longest(1, 0, 101, 0)", x.longest(1, 0, 101, 0), -2);
        c.due("longest(1, -50, 50, 0)", x.longest(1, -50, 50, 0), 1);
        c.due("longest(1, -50, 51, 0)", x.longest(1, -50, 51, 0), -2);
        c.due("longest(1, 7, 7, 0)", x.longest(1, 7, 7, 0), 1);
        c.due("longest(1, 7, 6, 0): none between", x.longest(1, 7, 6, 0), -2);
        c.due("longest(1, MIN, MIN + 100, 1)", x.longest(1, MIN, MIN + 100, 1), MIN);
        c.due("longest(1, MIN, MIN + 101, 1)", x.longest(1, MIN, MIN + 101, 1), -2);
        c.due("longest(1, MAX - 100, MAX, 1)", x.longest(1, MAX - 100, MAX, 1), MAX - 100);
        c.due("longest(1, MAX - 101, MAX, 1)", x.longest(1, MAX - 101, MAX, 1), -2);
        c.due("longest(1, MAX, MAX, 1)", x.longest(1, MAX, MAX, 1), MAX);
        // so far apart that the difference wraps
        c.due("longest(1, MIN, MAX, 0)", x.longest(1, MIN, MAX, 0), -2);
        c.due("longest(1, MAX, MIN, 0)", x.longest(1, MAX, MIN, 0), -2);
        c.due("longest(1, -2000000000, 2000000000, 0)", x.longest(1, -2000000000, 2000000000, 0), -2);
        c.due("longest(1, MAX, MIN + 50, 0)", x.longest(1, MAX, MIN + 50, 0), -2);
    }

    /** Goes round n times, then stops; it is late with an n below 0. */
    private static DrumCoder counter() {
        return Checks.with("a:load n;b:zero e;c:less one;d:store n to b;e:stop;n=3;one=1;");
    }

    private static int timeWith(DrumCoder x, int name, int v) {
        int before = x.value(name);
        x.set(name, v);
        int time = x.time();
        x.set(name, before);
        return time;
    }

    private static void bothEndsCount() {
        DrumCoder x = counter();
        c.due("longest(5, 4, 9, 0): the last one", x.longest(5, 4, 9, 0), timeWith(x, 5, 9));
        c.due("longest(5, 4, 9, 1)", x.longest(5, 4, 9, 1), 9);
        c.due("longest(5, 0, 100, 1)", x.longest(5, 0, 100, 1), 100);
        c.due("longest(5, 5, 5, 0)", x.longest(5, 5, 5, 0), timeWith(x, 5, 5));
        c.due("value(5) stays", x.value(5), 3);
        // the first one: 2 at name 1 goes on to a far stop, all others to a near one
        DrumCoder y = Checks.with("a:load b;b=0;c:stop;d:stop;");
        y.set(0, 90001);
        y.lay(3, 31);
        c.due("longest(1, 90003, 90005, 1)", y.longest(1, 90003, 90005, 1), 90003);
        c.due("longest(1, 90000, 90003, 1)", y.longest(1, 90000, 90003, 1), 90003);
    }

    private static void leastValueWithIt() {
        DrumCoder x = Checks.with("a:stop;b=0;");
        c.due("longest(1, -3, 3, 1): all take the same", x.longest(1, -3, 3, 1), -3);
        // more bits take longer: 7 is the least with three
        DrumCoder y = Checks.with("words 8;quick 2;quick 2;", "a:times w to b;w=0;b:stop;");
        c.due("longest(1, 0, 14, 0)", y.longest(1, 0, 14, 0), 9);
        c.due("longest(1, 0, 14, 1): two bits as three", y.longest(1, 0, 14, 1), 7);
        c.due("longest(1, 8, 14, 1)", y.longest(1, 8, 14, 1), 11);
    }

    private static void longestOfNoName() {
        c.due("longest(0, 0, 0, 0) without names", new DrumCoder().longest(0, 0, 0, 0), -2);
        DrumCoder x = Checks.with("a:stop;b=0;");
        for (int name : new int[] {2, 39, 40, -1, MIN, MAX}) {
            c.due("longest(" + name + ", 0, 1, 0)", x.longest(name, 0, 1, 0), -2);
        }
    }

    private static void noSuchWhat() {
        DrumCoder x = Checks.with("a:stop;b=0;");
        for (int what : new int[] {2, 3, -1, 100, MIN, MAX}) {
            c.due("longest(1, 0, 1, " + what + ")", x.longest(1, 0, 1, what), -1);
        }
        c.due("longest(1, 0, 1, 0)", x.longest(1, 0, 1, 0), 1);
        c.due("longest(1, 0, 1, 1)", x.longest(1, 0, 1, 1), 0);
    }

    private static void noneStops() {
        DrumCoder x = Checks.with("a=0;b=-1;");
        c.due("longest(0, -50, -1, 0): all wrong", x.longest(0, -50, -1, 0), -4);
        c.due("longest(0, -50, -1, 1): all wrong", x.longest(0, -50, -1, 1), -4);
        c.due("longest(0, -50, 0, 0): one stops", x.longest(0, -50, 0, 0), 1);
        c.due("value(0) stays", x.value(0), 0);
        DrumCoder y = counter();
        c.due("longest(5, -50, -1, 0): all late", y.longest(5, -50, -1, 0), -4);
        c.due("longest(5, 0, 0, 0)", y.longest(5, 0, 0, 0), timeWith(y, 5, 0));
        c.due("value(5) stays", y.value(5), 3);
    }

    private static void onlyThoseThatStop() {
        // late ones take longer, and do not count
        DrumCoder x = counter();
        c.due("longest(5, -20, 2, 0)", x.longest(5, -20, 2, 0), timeWith(x, 5, 2));
        c.due("longest(5, -20, 2, 1)", x.longest(5, -20, 2, 1), 2);
        // 3 * 666 + 3 steps are too many, 3 * 665 + 3 are not
        c.due("longest(5, 600, 700, 1)", x.longest(5, 600, 700, 1), 665);
        // the wrong one at place 31 takes longer than the stop
        DrumCoder y = Checks.with("a:halve;b:stop;c=-1;");
        y.lay(2, 31);
        c.due("time() by the wrong one", timeWith(y, 0, 90002), 16);
        c.due("longest(0, 90001, 90002, 0)", y.longest(0, 90001, 90002, 0), 2);
        c.due("longest(0, 90001, 90002, 1)", y.longest(0, 90001, 90002, 1), 90001);
    }

    private static void wordsOfATable() {
        DrumCoder x = new DrumCoder();
        for (int n : new int[] {1, 0, -1, 33, MIN, MAX}) {
            c.due("step(" + n + ", 3)", x.step(n, 3), -2);
        }
        c.due("step(2, 3)", x.step(2, 3), 3);
        c.due("step(16, 3)", x.step(16, 3), 3);
        c.due("step(32, 3) of 16", x.step(32, 3), -1);
        Checks.drum(x, "words 32;long;");
        c.due("step(32, 3) of 32", x.step(32, 3), 3);
        c.due("step(33, 3) of 32", x.step(33, 3), -2);
    }

    private static void gaps() {
        DrumCoder x = new DrumCoder();
        for (int gap : new int[] {0, -1, 1001, MIN, MAX}) {
            c.due("step(2, " + gap + ")", x.step(2, gap), -2);
        }
        c.due("step(2, 1)", x.step(2, 1), 1);
        // 1000 is 62 times 16 and 8
        c.due("step(2, 1000)", x.step(2, 1000), 8);
        c.due("step(2, 17): once round and 1", x.step(2, 17), 1);
        c.due("step(17, 0): RANGE ahead of NONE", x.step(17, 0), -2);
    }

    private static void placesApart() {
        DrumCoder x = new DrumCoder();
        c.due("step(2, 15): the most", x.step(2, 15), 15);
        c.due("step(2, 16): no step of 16 or 0, so it is 1", x.step(2, 16), 1);
        c.due("step(2, 32)", x.step(2, 32), 1);
        c.due("step(16, 15)", x.step(16, 15), 15);
        Checks.drum(x, "words 8;quick 2;long;");
        c.due("step(2, 7) of 8", x.step(2, 7), 7);
        c.due("step(2, 8) of 8", x.step(2, 8), 1);
        c.due("step(8, 7) of 8", x.step(8, 7), 7);
    }

    private static void unlikePlaces() {
        DrumCoder x = new DrumCoder();
        c.due("step(2, 8): two by 8", x.step(2, 8), 8);
        c.due("step(3, 8): three by 8 come back to the first", x.step(3, 8), 9);
        c.due("step(4, 4): four by 4", x.step(4, 4), 4);
        c.due("step(5, 4): five by 4 come back", x.step(5, 4), 5);
        c.due("step(8, 2): eight by 2", x.step(8, 2), 2);
        c.due("step(9, 2): nine by 2 come back", x.step(9, 2), 3);
        c.due("step(9, 14): 15 is the next that is odd", x.step(9, 14), 15);
        Checks.drum(x, "words 12;long;");
        c.due("step(4, 9) of 12: four by 9", x.step(4, 9), 9);
        c.due("step(5, 8) of 12: 8, 9 come back, 10 does not", x.step(5, 8), 10);
        c.due("step(7, 8) of 12: 11 is the next that fits", x.step(7, 8), 11);
        Checks.drum(x, "words 13;long;");
        c.due("step(13, 6) of 13", x.step(13, 6), 6);
    }

    private static void leastWaiting() {
        DrumCoder x = new DrumCoder();
        // what is wanted 3 behind the last one comes at once by 3, and all round later by 2
        for (int gap = 1; gap < 16; gap++) {
            c.due("step(2, " + gap + ")", x.step(2, gap), gap);
        }
        // 14 does not keep nine unlike, nor would 16: by 15 one waits 1, by 1 one waits 3
        c.due("step(9, 14)", x.step(9, 14), 15);
        c.due("step(9, 16)", x.step(9, 16), 1);
    }

    private static void noStep() {
        DrumCoder x = new DrumCoder();
        c.due("step(16, 5) of 16", x.step(16, 5), 5);
        c.due("step(17, 5) of 16", x.step(17, 5), -1);
        Checks.drum(x, "words 8;long;");
        c.due("step(8, 5) of 8", x.step(8, 5), 5);
        c.due("step(9, 5) of 8", x.step(9, 5), -1);
        Checks.drum(x, "words 31;long;");
        c.due("step(31, 1000) of 31", x.step(31, 1000), 8);
        c.due("step(32, 1000) of 31", x.step(32, 1000), -1);
    }

    private static void kinds(DrumCoder x, int... due) {
        for (int i = 0; i < due.length; i++) {
            c.due("known(" + i + ")", x.known(i), due[i]);
        }
    }

    private static void knownOfNoName() {
        c.due("known(0) without names", new DrumCoder().known(0), -2);
        DrumCoder x = Checks.with("a:stop;b=0;");
        for (int name : new int[] {2, 39, 40, -1, MIN, MAX}) {
            c.due("known(" + name + ")", x.known(name), -2);
        }
        kinds(x, 1, 0);
    }

    private static void valuesAsTheyAreNow() {
        DrumCoder x = Checks.with("a:halve;b:stop;c:stop;");
        kinds(x, 1, 1, 0);
        x.set(0, 90002);
        kinds(x, 1, 0, 1);
        // an ENTRY that is wrong leads nowhere
        x.set(0, -1);
        kinds(x, 0, 0, 0);
        x.set(0, 90003);
        kinds(x, 0, 0, 0);
        x.set(0, 10300);
        kinds(x, 0, 0, 0);
        x.set(0, 100000);
        kinds(x, 0, 0, 0);
        x.entry(2);
        kinds(x, 0, 0, 1);
        // a number goes for an order, if the orders come to it
        DrumCoder y = Checks.with("a:halve to c;b:stop;c=90001;d=90001;");
        kinds(y, 1, 1, 1, 0);
        // a run that changes it changes nothing here
        DrumCoder z = Checks.with("a:load d;b:store c;c:stop;d=90004;e:stop;");
        z.run();
        kinds(z, 1, 1, 3, 2, 0);
    }

    private static void notBehindAStop() {
        DrumCoder x = Checks.with("a:stop to b;b:stop;");
        kinds(x, 1, 0);
        x.set(0, 80001);
        kinds(x, 1, 1);
        // every other one leads on, also to one that is wrong
        x.set(1, -1);
        kinds(x, 1, 0);
        // the last line's next is itself
        DrumCoder y = Checks.with("a:halve;b:halve;");
        kinds(y, 1, 1);
    }

    private static void bothWays() {
        for (String op : new String[] {"neg", "zero"}) {
            DrumCoder x = Checks.with("a:" + op + " c to b;b:stop;c:stop;d:stop;");
            kinds(x, 1, 1, 1, 0);
            x.set(2, -1);
            kinds(x, 1, 1, 0, 0);
            x.set(1, -1);
            kinds(x, 1, 0, 0, 0);
            x.set(2, 90003);
            kinds(x, 1, 0, 1, 1);
        }
        // the W of print, halve and stop leads nowhere, nor does that of load
        DrumCoder y = Checks.with("a=80301;b=90302;c=302;d:stop;");
        kinds(y, 1, 1, 1, 0);
        DrumCoder z = Checks.with("a:load c;b:stop;c:halve to d;d:stop;");
        kinds(z, 1, 1, 2, 0);
    }

    private static void numbersByFive() {
        String[] ops = {"load", "add", "less", "times", "store"};
        for (String op : ops) {
            DrumCoder x = Checks.with("a:" + op + " c;b:stop;c=-5;d=-5;");
            kinds(x, 1, 1, 2, 0);
        }
        for (String op : new String[] {"neg", "zero"}) {
            DrumCoder x = Checks.with("a:" + op + " c;b:stop;c=-5;");
            kinds(x, 1, 1, 0);
        }
        // one that is not come to makes no number
        DrumCoder y = Checks.with("a:stop;b:load c;c=-5;");
        kinds(y, 1, 0, 0);
    }

    private static void fourKinds() {
        DrumCoder x = Checks.with("a:load b;b:add d;c:stop;d=-1;e=-1;");
        kinds(x, 1, 3, 1, 2, 0);
        DrumCoder y = Checks.with("a:load a;b:stop;");
        kinds(y, 3, 1);
        // as many as there may be, one behind the other
        String row = Checks.numbers(40).replaceAll("=[0-9]+", ":halve");
        DrumCoder z = Checks.with("words 20;long;long;", row);
        for (int i = 0; i < 40; i++) {
            c.due("known(" + i + ") of a row of 40", z.known(i), 1);
        }
        // and so that all come back to the first ones again and again
        DrumCoder back = Checks.with("words 20;long;long;", row.replace(":halve", ":neg aa"));
        for (int i = 0; i < 40; i++) {
            c.due("known(" + i + ") of 40 that go back", back.known(i), 1);
        }
    }

    private static void jobTimes() {
        DrumCoder x = new DrumCoder();
        for (int time : new int[] {0, -1, 10000, MIN, MAX}) {
            c.due("job(" + time + ", 5)", x.job(time, 5), -2);
        }
        c.due("told(5)", x.told(5), 0);
        c.due("job(1, 5)", x.job(1, 5), 0);
        c.due("job(9999, 5)", x.job(9999, 5), 1);
    }

    private static void jobDues() {
        DrumCoder x = new DrumCoder();
        for (int due : new int[] {0, -1, 100000, MIN, MAX}) {
            c.due("job(5, " + due + ")", x.job(5, due), -2);
        }
        c.due("told(5)", x.told(5), 0);
        c.due("job(5, 1)", x.job(5, 1), 0);
        c.due("job(5, 99999)", x.job(5, 99999), 1);
        c.due("night()", x.night(), 2);
    }

    private static void jobNumbers() {
        DrumCoder x = new DrumCoder();
        for (int i = 0; i < 8; i++) {
            c.due("job number " + i, x.job(1, 99999), i);
            c.due("job() out of range", x.job(0, 1), -2);
        }
        c.due("night()", x.night(), 255);
    }

    private static void ninthJob() {
        DrumCoder x = new DrumCoder();
        for (int i = 0; i < 8; i++) {
            x.job(9, 9);
        }
        c.due("the ninth", x.job(1, 99999), -3);
        c.due("the ninth again", x.job(1, 99999), -3);
        c.due("told(5)", x.told(5), 8);
        c.due("night(): it is none of them", x.night(), 1);
        x.night();
        Checks.drum(x, "words 8;long;");
        Checks.program(x, "a:stop;");
        c.due("the ninth behind a night, a drum, a program", x.job(1, 1), -3);
    }

    private static void night(int due, int... timesAndDues) {
        DrumCoder x = new DrumCoder();
        for (int i = 0; i < timesAndDues.length; i += 2) {
            x.job(timesAndDues[i], timesAndDues[i + 1]);
        }
        c.due("night() of " + java.util.Arrays.toString(timesAndDues), x.night(), due);
        c.due("night() again", x.night(), due);
    }

    private static void noJobs() {
        night(0);
        // JOBS of which none can be done
        night(0, 2, 1);
        night(0, 9999, 9998, 5, 4);
    }

    private static void byTheirDues() {
        night(1, 5, 5);
        night(0, 6, 5);
        night(3, 5, 5, 5, 10);
        night(1, 5, 5, 5, 9);
        // in another order than they were told
        night(3, 5, 10, 5, 5);
        night(7, 1, 3, 1, 2, 1, 1);
        for (int i = 0; i < 256; i++) {
            int[] dues = {1 + i % 4, 1 + i / 4 % 4, 1 + i / 16 % 4, 1 + i / 64};
            boolean unlike = (1 << dues[0] | 1 << dues[1] | 1 << dues[2] | 1 << dues[3]) == 30;
            if (unlike) {
                night(15, 1, dues[0], 1, dues[1], 1, dues[2], 1, dues[3]);
            }
        }
        night(255, 1, 8, 1, 7, 1, 6, 1, 5, 1, 4, 1, 3, 1, 2, 1, 1);
        night(127, 1, 7, 1, 7, 1, 6, 1, 5, 1, 4, 1, 3, 1, 2, 1, 1);
        night(255, 9999, 99999, 9999, 99999, 9999, 99999, 9999, 99999,
                9999, 99999, 9999, 99999, 9999, 99999, 9999, 79992);
        night(127, 9999, 99999, 9999, 79991, 9999, 79991, 9999, 79991, 9999, 79991, 9999, 79991, 9999, 79991, 9999, 9998);
    }

    private static void mostJobs() {
        // two that take long rather than the shorter one of them alone
        night(3, 9, 9, 9, 18);
        // two rather than the first one alone, though that takes less
        night(6, 4, 4, 2, 2, 3, 5);
        night(5, 1, 1, 9, 9, 9, 18, 9, 17);
        night(14, 9, 9, 2, 9, 3, 9, 4, 9);
    }

    private static void leastTimeInAll() {
        night(2, 5, 5, 4, 4);
        night(1, 4, 4, 5, 5);
        night(5, 3, 6, 4, 6, 3, 6);
        night(6, 5, 5, 3, 4, 2, 9);
    }

    private static void leastSet() {
        night(1, 4, 4, 4, 4);
        night(3, 3, 6, 3, 6, 3, 6);
        // only the last one can be done behind another: the first of these others
        night(9, 3, 3, 3, 3, 3, 3, 3, 6);
        night(1, 7, 7, 7, 7, 7, 7, 7, 7, 7, 7, 7, 7, 7, 7, 7, 7);
    }
}
