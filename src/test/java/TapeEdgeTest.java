/** The edges that promises 1 to 3, 6 and 7 name: a new object, the tape, faults, what is told. */
public final class TapeEdgeTest {
    private static final Checks c = new Checks("TapeEdgeTest");
    private static final int NO = Checks.NO_NUMBER;
    private static final int BLANKS = 0x20202020;

    public static void main(String[] args) {
        c.edge(1, "A drum of 16 words and two long TRACKS", TapeEdgeTest::firstDrum);
        c.edge(1, "no PROGRAM", TapeEdgeTest::firstProgram);
        c.edge(1, "An object is used for at most 512 calls after it has been made", TapeEdgeTest::lastCall);
        c.edge(2, "Twenty bytes come behind THE TAPE", TapeEdgeTest::twentyMore);
        c.edge(2, "the highest of each int first", TapeEdgeTest::highestFirst);
        c.edge(2, "FULL when there would be more than 1200", TapeEdgeTest::fullTape);
        c.edge(3, "THE TAPE has its first n bytes alone: n", TapeEdgeTest::firstBytesAlone);
        c.edge(3, "NONE when it has not so many", TapeEdgeTest::endBehindTheTape);
        c.edge(3, "or n is below 0", TapeEdgeTest::endBelowZero);
        c.edge(6, "Of the latest drum() or program()", TapeEdgeTest::latestFault);
        c.edge(6, "its FAULT's KIND, 0 without (and ahead of any)", TapeEdgeTest::faultKinds);
        c.edge(6, "1: its PLACE (NONE)", TapeEdgeTest::faultPlaces);
        c.edge(6, "NONE for another what", TapeEdgeTest::otherFaults);
        c.edge(7, "What 0: words of the drum, 1: TRACKS", TapeEdgeTest::toldOfTheDrum);
        c.edge(7, "2: SPOTS that are there", TapeEdgeTest::toldSpots);
        c.edge(7, "3: NAMES, 4: ENTRY", TapeEdgeTest::toldOfTheProgram);
        c.edge(7, "5: JOBS", TapeEdgeTest::toldJobs);
        c.edge(7, "6: bytes of THE TAPE", TapeEdgeTest::toldBytes);
        c.edge(7, "10 + k: ROUND of TRACK k", TapeEdgeTest::toldRounds);
        c.edge(7, "NONE for others", TapeEdgeTest::toldOthers);
        c.finish();
    }

    private static void firstDrum() {
        DrumCoder x = new DrumCoder();
        c.due("told(0)", x.told(0), 16);
        c.due("told(1)", x.told(1), 2);
        c.due("told(2)", x.told(2), 32);
        c.due("told(10)", x.told(10), 16);
        c.due("told(11)", x.told(11), 16);
        c.due("told(12)", x.told(12), -1);
        c.due("spoil(0)", x.spoil(0), -1);
        c.due("spoil(31)", x.spoil(31), -1);
        c.due("spoil(32)", x.spoil(32), -2);
    }

    private static void firstProgram() {
        DrumCoder x = new DrumCoder();
        c.due("told(3)", x.told(3), 0);
        c.due("told(4)", x.told(4), 0);
        c.due("value(0)", x.value(0), NO);
        c.due("set(0, 1)", x.set(0, 1), -2);
        c.due("entry(0)", x.entry(0), -2);
        c.due("run()", x.run(), -4);
        c.due("spot(0)", x.spot(0), -2);
        c.due("take(0)", x.take(0), -4);
        c.due("told(5)", x.told(5), 0);
        c.due("told(6)", x.told(6), 0);
    }

    private static void lastCall() {
        // a=1; then call after call: the 512th answers as the first does
        DrumCoder x = new DrumCoder();
        x.feed(0x613D313B, BLANKS, BLANKS, BLANKS, BLANKS);
        x.program();
        for (int call = 3; call <= 510; call++) {
            if (call % 2 == 0) {
                c.due("set(0, " + call + "), call " + call, x.set(0, call), 1);
            } else {
                c.due("time(), call " + call, x.time(), 1);
            }
        }
        c.due("value(0), call 511", x.value(0), 510);
        c.due("run(), call 512", x.run(), 1);
        // and so do calls that change most, all the way
        DrumCoder y = Checks.with("a:load w;b:stop;w=5;");
        for (int call = 5; call + 4 < 512; call += 5) {
            c.due("keep(0) ahead of call " + call, y.keep(0), 1);
            c.due("lay(1, 3)", y.lay(1, 3), 1);
            c.due("longest(2, 0, 9, 1)", y.longest(2, 0, 9, 1), 0);
            c.due("exchange()", y.exchange(), 4);
            c.due("take(0)", y.take(0), 18);
        }
    }

    private static void twentyMore() {
        DrumCoder x = new DrumCoder();
        c.due("feed", x.feed(0, 0, 0, 0, 0), 20);
        c.due("feed again", x.feed(-1, -1, -1, -1, -1), 40);
        c.due("end(7)", x.end(7), 7);
        c.due("feed behind 7", x.feed(0, 0, 0, 0, 0), 27);
        c.due("end(0)", x.end(0), 0);
        c.due("feed behind none", x.feed(0, 0, 0, 0, 0), 20);
        // a=1; and behind it b=2;
        DrumCoder y = new DrumCoder();
        y.feed(0x613D313B, BLANKS, BLANKS, BLANKS, BLANKS);
        y.end(4);
        y.feed(0x623D323B, BLANKS, BLANKS, BLANKS, BLANKS);
        c.due("told(6)", y.told(6), 24);
        c.due("program()", y.program(), 2);
        c.due("value(0)", y.value(0), 1);
        c.due("value(1)", y.value(1), 2);
    }

    private static void highestFirst() {
        // ab=1 2;cd =345 ;ef= 678;
        DrumCoder x = new DrumCoder();
        x.feed(0x61623D31, 0x323B6364, 0x3D333435, 0x3B65663D, 0x3637383B);
        c.due("program()", x.program(), 3);
        c.due("value(0)", x.value(0), 12);
        c.due("value(1)", x.value(1), 345);
        c.due("value(2)", x.value(2), 678);
        for (int i = 0; i < 20; i++) {
            // the one byte that is no blank is 255: the fault tells where it came to lie
            int[] five = {BLANKS, BLANKS, BLANKS, BLANKS, BLANKS};
            five[i / 4] |= 255 << 24 - i % 4 * 8;
            DrumCoder y = new DrumCoder();
            y.feed(five[0], five[1], five[2], five[3], five[4]);
            c.due("program() with a bad byte " + i, y.program(), -1);
            c.due("fault(1) with a bad byte " + i, y.fault(1), i);
        }
    }

    private static void fullTape() {
        DrumCoder x = new DrumCoder();
        x.feed(0x613D313B, BLANKS, BLANKS, BLANKS, BLANKS);
        for (int i = 2; i <= 60; i++) {
            c.due("feed number " + i, x.feed(BLANKS, BLANKS, BLANKS, BLANKS, BLANKS), 20 * i);
        }
        c.due("feed number 61", x.feed(0, 0, 0, 0, 0), -3);
        c.due("told(6) stays", x.told(6), 1200);
        c.due("program(): the tape stays", x.program(), 1);
        DrumCoder y = new DrumCoder();
        for (int i = 1; i <= 60; i++) {
            y.feed(BLANKS, BLANKS, BLANKS, BLANKS, BLANKS);
        }
        c.due("end(1199)", y.end(1199), 1199);
        c.due("feed: 1219", y.feed(0, 0, 0, 0, 0), -3);
        c.due("end(1181)", y.end(1181), 1181);
        c.due("feed: 1201", y.feed(0, 0, 0, 0, 0), -3);
        c.due("told(6) stays", y.told(6), 1181);
        c.due("end(1180)", y.end(1180), 1180);
        c.due("feed: 1200", y.feed(0x613D313B, BLANKS, BLANKS, BLANKS, 0x623D323B), 1200);
        c.due("program() of 1200 bytes: the last ones are read", y.program(), 2);
    }

    private static void firstBytesAlone() {
        DrumCoder x = new DrumCoder();
        c.due("end(0) of none", x.end(0), 0);
        x.feed(0x613D313B, 0x623D323B, 0x633D333B, 0x643D343B, 0x653D353B);
        c.due("end(20) of 20", x.end(20), 20);
        c.due("told(6)", x.told(6), 20);
        c.due("end(19) of 20", x.end(19), 19);
        c.due("end(12) of 19", x.end(12), 12);
        c.due("told(6)", x.told(6), 12);
        c.due("program() of a=1;b=2;c=3;", x.program(), 3);
        c.due("value(0)", x.value(0), 1);
        c.due("value(2)", x.value(2), 3);
        x.feed(-1, -1, -1, -1, -1);
        c.due("end(0)", x.end(0), 0);
        c.due("told(6)", x.told(6), 0);
        c.due("program() of nothing", x.program(), 0);
    }

    private static void endBehindTheTape() {
        DrumCoder x = new DrumCoder();
        c.due("end(1) of none", x.end(1), -1);
        x.feed(0, 0, 0, 0, 0);
        c.due("end(21) of 20", x.end(21), -1);
        c.due("end(1200) of 20", x.end(1200), -1);
        c.due("end(1201) of 20", x.end(1201), -1);
        c.due("end(MAX) of 20", x.end(Integer.MAX_VALUE), -1);
        c.due("told(6) stays", x.told(6), 20);
        c.due("end(4)", x.end(4), 4);
        c.due("end(5): what was cut is gone", x.end(5), -1);
        c.due("told(6) stays", x.told(6), 4);
    }

    private static void endBelowZero() {
        DrumCoder x = new DrumCoder();
        c.due("end(-1) of none", x.end(-1), -1);
        x.feed(0, 0, 0, 0, 0);
        c.due("end(-1)", x.end(-1), -1);
        c.due("end(-20)", x.end(-20), -1);
        c.due("end(MIN)", x.end(Integer.MIN_VALUE), -1);
        c.due("told(6) stays", x.told(6), 20);
    }

    private static void latestFault() {
        DrumCoder x = new DrumCoder();
        Checks.drum(x, "words 7;long;");
        c.due("fault(0) of a drum", x.fault(0), 2);
        Checks.program(x, "a=1;a=2;");
        c.due("fault(0) of the program behind it", x.fault(0), 3);
        c.due("fault(1) of the program behind it", x.fault(1), 4);
        Checks.drum(x, "words 8;");
        c.due("fault(0) of the drum behind it", x.fault(0), 1);
        c.due("fault(1) of the drum behind it", x.fault(1), 8);
        x.feed(0, 0, 0, 0, 0);
        x.end(0);
        x.run();
        c.due("fault(0) behind other calls", x.fault(0), 1);
        c.due("fault(1) behind other calls", x.fault(1), 8);
        Checks.program(x, "a=1;");
        c.due("fault(0) of a program without", x.fault(0), 0);
        Checks.program(x, "a");
        Checks.drum(x, "words 8;long;");
        c.due("fault(0) of a drum without", x.fault(0), 0);
        c.due("fault(1) of a drum without", x.fault(1), -1);
    }

    private static void faultKinds() {
        DrumCoder x = new DrumCoder();
        c.due("fault(0) ahead of any", x.fault(0), 0);
        x.run();
        x.feed(-1, -1, -1, -1, -1);
        c.due("fault(0) ahead of any that reads", x.fault(0), 0);
        x.end(0);
        c.due("drum() of nothing", x.drum(), -1);
        c.due("fault(0) of it", x.fault(0), 1);
        c.due("program() of nothing", x.program(), 0);
        c.due("fault(0) without", x.fault(0), 0);
        c.due("program() that is FULL", Checks.program(x, Checks.numbers(33)), -3);
        c.due("fault(0) of FULL", x.fault(0), 0);
    }

    private static void faultPlaces() {
        DrumCoder x = new DrumCoder();
        c.due("fault(1) ahead of any", x.fault(1), -1);
        x.drum();
        c.due("fault(1) of a drum() of nothing", x.fault(1), 0);
        x.program();
        c.due("fault(1) without", x.fault(1), -1);
        Checks.program(x, "a");
        c.due("fault(1) of a", x.fault(1), 1);
        Checks.program(x, Checks.numbers(33));
        c.due("fault(1) of FULL", x.fault(1), -1);
    }

    private static void otherFaults() {
        DrumCoder x = new DrumCoder();
        int[] others = {2, 3, 10, -1, -2, Integer.MAX_VALUE, Integer.MIN_VALUE};
        for (int what : others) {
            c.due("fault(" + what + ") ahead of any", x.fault(what), -1);
        }
        Checks.program(x, "abc=1;abc");
        c.due("fault(1)", x.fault(1), 6);
        for (int what : others) {
            c.due("fault(" + what + ") with a fault", x.fault(what), -1);
        }
    }

    private static void toldOfTheDrum() {
        DrumCoder x = new DrumCoder();
        Checks.drum(x, "words 8;quick 3;");
        c.due("told(0) of the smallest", x.told(0), 8);
        c.due("told(1) of one", x.told(1), 1);
        Checks.drum(x, "words 32;quick 2;long;many 4;long;");
        c.due("told(0) of the greatest", x.told(0), 32);
        c.due("told(1) of four", x.told(1), 4);
    }

    private static void toldSpots() {
        DrumCoder x = new DrumCoder();
        Checks.drum(x, "words 8;quick 2;");
        c.due("told(2) of the fewest", x.told(2), 2);
        x.spoil(0);
        c.due("told(2): a bad one is there", x.told(2), 2);
        Checks.drum(x, "words 32;many 2;long;many 4;long;");
        c.due("told(2) of the most", x.told(2), 128);
        Checks.drum(x, "words 10;quick 3;long;quick 8;");
        c.due("told(2)", x.told(2), 21);
    }

    private static void toldOfTheProgram() {
        DrumCoder x = Checks.with("words 20;long;long;", Checks.numbers(40));
        c.due("told(3) of the most", x.told(3), 40);
        c.due("told(4)", x.told(4), 0);
        x.entry(39);
        c.due("told(4) of the last", x.told(4), 39);
        Checks.program(x, "");
        c.due("told(3) of none", x.told(3), 0);
        c.due("told(4) of none", x.told(4), 0);
    }

    private static void toldJobs() {
        DrumCoder x = new DrumCoder();
        c.due("told(5) of none", x.told(5), 0);
        for (int i = 1; i <= 8; i++) {
            x.job(i, i);
            c.due("told(5) of " + i, x.told(5), i);
        }
        x.job(9, 9);
        c.due("told(5) when FULL", x.told(5), 8);
        x.night();
        Checks.drum(x, "words 8;long;");
        Checks.program(x, "a=1;");
        c.due("told(5) behind a night, a drum, a program", x.told(5), 8);
    }

    private static void toldBytes() {
        DrumCoder x = new DrumCoder();
        c.due("told(6) of none", x.told(6), 0);
        for (int i = 1; i <= 60; i++) {
            x.feed(0, 0, 0, 0, 0);
        }
        c.due("told(6) of all", x.told(6), 1200);
        x.end(1);
        c.due("told(6) of one", x.told(6), 1);
        x.drum();
        c.due("told(6) behind drum()", x.told(6), 0);
    }

    private static void toldRounds() {
        DrumCoder x = new DrumCoder();
        Checks.drum(x, "words 28;quick 2;many 4;many 2;long;");
        c.due("told(10) of quick 2", x.told(10), 2);
        c.due("told(11) of many 4", x.told(11), 7);
        c.due("told(12) of many 2", x.told(12), 14);
        c.due("told(13) of long", x.told(13), 28);
        Checks.drum(x, "words 8;quick 8;");
        c.due("told(10) of quick 8", x.told(10), 8);
    }

    private static void toldOthers() {
        DrumCoder x = new DrumCoder();
        Checks.drum(x, "words 8;long;long;long;long;");
        int[] others = {-1, 7, 8, 9, 14, 15, 100, Integer.MAX_VALUE, Integer.MIN_VALUE, Integer.MIN_VALUE + 10};
        for (int what : others) {
            c.due("told(" + what + ")", x.told(what), -1);
        }
        // a track that was there and is no more
        Checks.drum(x, "words 8;long;");
        for (int what = 11; what < 15; what++) {
            c.due("told(" + what + ") of one track", x.told(what), -1);
        }
    }
}
