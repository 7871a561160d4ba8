/** The edges that promise 4 names, with the terms of the drum's text. */
public final class DrumEdgeTest {
    private static final Checks c = new Checks("DrumEdgeTest");
    private static final int NO = Checks.NO_NUMBER;

    public static void main(String[] args) {
        c.edge(4, "each call that reads it empties it, whatever it tells", DrumEdgeTest::emptyTape);
        c.edge(4, "TOKENS with any blanks (32, 10) between", DrumEdgeTest::blanks);
        c.edge(4, "WORDS (small letters, as many as there are, 6 at most)", DrumEdgeTest::letters);
        c.edge(4, "N (digits, as many as there are, 9 at most)", DrumEdgeTest::digits);
        c.edge(4, "\"words\" N \";\" TRACK {TRACK}", DrumEdgeTest::oneTrackAtLeast);
        c.edge(4, "words 8 .. 32", DrumEdgeTest::wordsOfTheDrum);
        c.edge(4, "many: 2 or 4 heads", DrumEdgeTest::heads);
        c.edge(4, "quick: 2 .. 8 words", DrumEdgeTest::quickWords);
        c.edge(4, "no more than the words of the drum", DrumEdgeTest::quickAsTheDrum);
        c.edge(4, "TRACKS, at most 4, numbered from 0", DrumEdgeTest::fourTracks);
        c.edge(4, "a TOKEN's first byte", DrumEdgeTest::firstBytes);
        c.edge(4, "the text's length at its end", DrumEdgeTest::lengthAtEnd);
        c.edge(4, "the first come to as TOKENS are read one by one", DrumEdgeTest::firstFault);
        c.edge(4, "of one TOKEN the least KIND", DrumEdgeTest::leastKind);
        c.edge(4, "1 SYNTAX: a TOKEN (or byte that is none, a run that is too long) with which no text goes on",
                DrumEdgeTest::syntax);
        c.edge(4, "2 RANGE: an N out of its bounds", DrumEdgeTest::outOfBounds);
        c.edge(4, "a many that isn't 2 or 4", DrumEdgeTest::otherHeads);
        c.edge(4, "or that doesn't part the words of the drum evenly", DrumEdgeTest::unevenHeads);
        c.edge(4, "the fifth TRACK at its first WORD", DrumEdgeTest::fifthTrack);
        c.edge(4, "how many SPOTS are there", DrumEdgeTest::spotsThere);
        c.edge(4, "NONE with a FAULT (it stays)", DrumEdgeTest::staysWithAFault);
        c.edge(4, "If there are fewer than NAMES, the PROGRAM is gone (no NAMES)", DrumEdgeTest::programGone);
        c.edge(4, "Kept LAYINGS are gone", DrumEdgeTest::layingsGone);
        c.edge(4, "and what run() told", DrumEdgeTest::reportGone);
        c.edge(4, "NAMES lie on the first SPOTS that are there, in order", DrumEdgeTest::firstSpots);
        c.edge(4, "none is BAD", DrumEdgeTest::noneBad);
        c.edge(4, "Of a quick TRACK only so many places are there as it has words", DrumEdgeTest::quickPlaces);
        c.finish();
    }

    private static void emptyTape() {
        DrumCoder x = new DrumCoder();
        c.due("drum()", Checks.drum(x, "words 8;long;"), 8);
        c.due("told(6) behind it", x.told(6), 0);
        c.due("drum() with a fault", Checks.drum(x, "words 8;long;+++"), -1);
        c.due("told(6) behind a fault", x.told(6), 0);
        c.due("drum() with a fault at the first byte", Checks.drum(x, "+words 8;long;"), -1);
        c.due("told(6) behind a fault", x.told(6), 0);
        c.due("drum() of nothing", x.drum(), -1);
        c.due("told(6) behind nothing", x.told(6), 0);
        c.due("feed", x.feed(0, 0, 0, 0, 0), 20);
        x.run();
        x.told(0);
        x.night();
        c.due("told(6) behind calls that don't read it", x.told(6), 20);
    }

    private static void blanks() {
        c.drumTold("words8;long;many2;quick3;", 19);
        c.drumTold(" \n \nwords \n 8\n\n; long \n ;  \n", 8);
        c.drumTold("words\n8\n;\nmany\n2\n;\n", 8);
        c.drumFault("words\t8;long;", 1, 5);
        c.drumFault("words 8;\rlong;", 1, 8);
        c.drumFault("words 8;long;\u000b", 1, 13);
        c.drumFault("words 8;long;\u0000", 1, 13);
        c.drumFault("words 8;long;\u001f", 1, 13);
        c.drumFault("words 8;long;!", 1, 13);
        c.drumFault("words 8;long;\u00a0", 1, 13);
    }

    private static void letters() {
        c.drumFault("Words 8;long;", 1, 0);
        c.drumFault("words 8;lonG;", 1, 8);
        c.drumFault("words 8;LONG;", 1, 8);
        // as many as there are: a word that only begins like the one that is wanted
        c.drumFault("wordsx 8;long;", 1, 0);
        c.drumFault("words 8;longs;", 1, 8);
        c.drumFault("words 8;longlong;", 1, 8);
        c.drumFault("words 8;quickly 2;", 1, 8);
        c.drumFault("wo rds 8;long;", 1, 0);
        // next to a and z
        c.drumFault("words 8;`;", 1, 8);
        c.drumFault("words 8;{", 1, 8);
    }

    private static void digits() {
        c.drumTold("words 000000008;long;", 8);
        c.drumFault("words 0000000008;long;", 1, 6);
        c.drumFault("words 4294967304;long;", 1, 6);
        c.drumTold("words 8;many 000000002;", 8);
        c.drumFault("words 8;many 0000000002;", 1, 13);
        c.drumTold("words 8;quick 000000002;", 2);
        c.drumFault("words 8;quick 0000000002;", 1, 14);
        // as many as there are: 1 6 are two of them, the first one out of its bounds
        c.drumFault("words 1 6;long;", 2, 6);
        c.drumFault("words 16 1;long;", 1, 9);
        // next to 0; next to 9 is the colon
        c.drumFault("words /8;long;", 1, 6);
        c.drumFault("words 8:long;", 1, 7);
    }

    private static void oneTrackAtLeast() {
        c.drumFault("words 8;", 1, 8);
        c.drumTold("words 8;long;", 8);
        c.drumFault("words 8;long;long", 1, 17);
        c.drumFault("long;words 8;", 1, 0);
        c.drumFault("words 8;words 8;long;", 1, 8);
    }

    private static void wordsOfTheDrum() {
        c.drumFault("words 0;long;", 2, 6);
        c.drumFault("words 7;long;", 2, 6);
        c.drumTold("words 8;long;", 8);
        c.drumTold("words 9;long;", 9);
        c.drumTold("words 31;long;", 31);
        c.drumTold("words 32;long;", 32);
        c.drumFault("words 33;long;", 2, 6);
        c.drumFault("words 999999999;long;", 2, 6);
    }

    private static void heads() {
        c.drumFault("words 8;many 0;", 2, 13);
        c.drumFault("words 8;many 1;", 2, 13);
        c.drumTold("words 8;many 2;", 8);
        c.drumFault("words 12;many 3;", 2, 14);
        c.drumTold("words 8;many 4;", 8);
        c.drumFault("words 10;many 5;", 2, 14);
        c.drumFault("words 8;many 8;", 2, 13);
        c.drumFault("words 8;many 999999999;", 2, 13);
    }

    private static void quickWords() {
        c.drumFault("words 32;quick 0;", 2, 15);
        c.drumFault("words 32;quick 1;", 2, 15);
        c.drumTold("words 32;quick 2;", 2);
        c.drumTold("words 32;quick 8;", 8);
        c.drumFault("words 32;quick 9;", 2, 15);
        c.drumFault("words 32;quick 32;", 2, 15);
        c.drumFault("words 32;quick 999999999;", 2, 15);
    }

    private static void quickAsTheDrum() {
        c.drumTold("words 8;quick 8;", 8);
        c.drumFault("words 8;quick 9;", 2, 14);
        c.drumTold("words 9;quick 8;", 8);
    }

    private static void fourTracks() {
        DrumCoder x = new DrumCoder();
        c.due("drum() of four", Checks.drum(x, "words 8;quick 5;many 4;many 2;long;"), 29);
        c.due("told(1)", x.told(1), 4);
        int[] rounds = {5, 2, 4, 8};
        for (int k = 0; k < 4; k++) {
            c.due("told(" + (10 + k) + ")", x.told(10 + k), rounds[k]);
        }
        c.due("spoil(4): TRACK 0, place 4", x.spoil(4), -1);
        c.due("spoil(5): TRACK 0 has no place 5", x.spoil(5), -2);
        c.due("spoil(8): TRACK 1, place 0", x.spoil(8), -1);
        c.due("spoil(31): TRACK 3, place 7", x.spoil(31), -1);
        c.due("spoil(32): no TRACK 4", x.spoil(32), -2);
        c.due("drum() of five", Checks.drum(x, "words 8;long;long;long;long;long;"), -1);
        c.due("told(2) stays", x.told(2), 29);
    }

    private static void firstBytes() {
        c.drumFault("x", 1, 0);
        c.drumFault(" \n word 8;", 1, 3);
        c.drumFault("words  33;", 2, 7);
        c.drumFault("words 8;many  333;", 2, 14);
        c.drumFault("words 8;  -", 1, 10);
    }

    private static void lengthAtEnd() {
        c.drumFault("", 1, 0);
        c.drumFault("words", 1, 5);
        c.drumFault("words 8", 1, 7);
        c.drumFault("words 8;long", 1, 12);
        c.drumFault("words 8;many", 1, 12);
        c.drumFault("words 8;many 2", 1, 14);
        // blanks are of the text: its length has them
        c.drumFault(" \n ", 1, 3);
        c.drumFault("words 8 \n\n", 1, 10);
        c.drumFault(" ".repeat(1200), 1, 1200);
        c.drumFault("words 8;" + " ".repeat(1192), 1, 1200);
    }

    private static void firstFault() {
        c.drumFault("words 7;many 3;", 2, 6);
        c.drumFault("words 8;many 3;lang;", 2, 13);
        c.drumFault("words 8;lang;many 3;", 1, 8);
        c.drumFault("words 8;many 3", 2, 13);
        c.drumFault("words 40", 2, 6);
        c.drumFault("words 8;long;long;long;long;many 3;", 4, 28);
        c.drumFault("words 8;long;long;long;many 3;long;", 2, 28);
    }

    private static void leastKind() {
        // too long and out of its bounds
        c.drumFault("words 0000000007;long;", 1, 6);
        // no track and the fifth one
        c.drumFault("words 8;long;long;long;long;last;", 1, 28);
        c.drumFault("words 8;long;long;long;long;;", 1, 28);
        c.drumFault("words 8;long;long;long;long;longest;", 1, 28);
        c.drumFault("words 8;long;long;long;long;many", 4, 28);
    }

    private static void syntax() {
        c.drumFault("; 8;long;", 1, 0);
        c.drumFault("8 words;long;", 1, 0);
        c.drumFault("words words 8;long;", 1, 6);
        c.drumFault("words -8;long;", 1, 6);
        c.drumFault("words = 8;long;", 1, 6);
        c.drumFault("words 8 long;", 1, 8);
        c.drumFault("words 8;long 2;", 1, 13);
        c.drumFault("words 8;many;", 1, 12);
        c.drumFault("words 8;quick;", 1, 13);
        c.drumFault("words 8;many 2 2;", 1, 15);
        c.drumFault("words 8;long;;", 1, 13);
        // bytes that are none
        c.drumFault("words 8,long;", 1, 7);
        c.drumFault("words 8;long;\u00ff", 1, 13);
        c.drumFault("words 8;long;\u0080", 1, 13);
        // runs that are too long
        c.drumFault("wordsss 8;long;", 1, 0);
        c.drumFault("words 8888888888;long;", 1, 6);
        c.drumFault("words 8;manyyyy 2;", 1, 8);
    }

    private static void outOfBounds() {
        c.drumFault("words 7", 2, 6);
        c.drumFault("words 33 long;", 2, 6);
        c.drumFault("words 8;quick 1", 2, 14);
        c.drumFault("words 8;quick 9 2;", 2, 14);
    }

    private static void otherHeads() {
        c.drumFault("words 12;many 1;", 2, 14);
        c.drumFault("words 12;many 3;", 2, 14);
        c.drumFault("words 12;many 6;", 2, 14);
        c.drumFault("words 12;many 12;", 2, 14);
        c.drumFault("words 12;many 3", 2, 14);
    }

    private static void unevenHeads() {
        c.drumFault("words 9;many 2;", 2, 13);
        c.drumTold("words 10;many 2;", 10);
        c.drumFault("words 10;many 4;", 2, 14);
        c.drumTold("words 12;many 4;", 12);
        c.drumFault("words 30;many 4;", 2, 14);
        c.drumFault("words 31;many 2;", 2, 14);
        c.drumTold("words 32;many 4;", 32);
    }

    private static void fifthTrack() {
        c.drumTold("words 8;long;long;long;long;", 32);
        c.drumTold("words 8;long;long;long;long; \n", 32);
        c.drumFault("words 8;long;long;long;long;long;", 4, 28);
        c.drumFault("words 8;long;long;long;long; many 2;", 4, 29);
        c.drumFault("words 8;long;long;long;long;\n\nquick", 4, 30);
        c.drumFault("words 8;long;long;long;long;long;long;", 4, 28);
    }

    private static void spotsThere() {
        c.drumTold("words 8;quick 2;", 2);
        c.drumTold("words 32;long;long;many 2;many 4;", 128);
        c.drumTold("words 32;quick 8;quick 2;long;", 42);
        c.drumTold("words 8;quick 2;quick 2;quick 2;quick 2;", 8);
    }

    private static void staysWithAFault() {
        DrumCoder x = Checks.with("words 12;quick 5;many 4;", "a:load c;b:stop;c=5;");
        x.entry(1);
        x.lay(0, 20);
        x.spoil(4);
        x.keep(3);
        x.run();
        int time = x.time();
        String[] texts = {"", "words 8;", "words 33;long;", "words 8;long;many 3;", "words 8;long;long;long;long;long;"};
        for (String text : texts) {
            c.due("drum() of '" + text + "'", Checks.drum(x, text), -1);
            int[] told = {12, 2, 17, 3, 1, 0, 0};
            for (int i = 0; i < told.length; i++) {
                c.due("told(" + i + ") behind '" + text + "'", x.told(i), told[i]);
            }
            c.due("told(10)", x.told(10), 5);
            c.due("told(11)", x.told(11), 3);
            c.due("told(12)", x.told(12), -1);
            c.due("spot(0)", x.spot(0), 20);
            c.due("spoil(4): it is BAD still", x.spoil(4), -4);
            c.due("ran(0)", x.ran(0), 0);
            c.due("take(3)", x.take(3), time);
        }
    }

    private static void programGone() {
        String five = "a:load d;b:stop;c=1;d=7;e=2;";
        DrumCoder x = Checks.with(five);
        x.set(3, 70);
        x.entry(1);
        c.due("drum() of just as many", Checks.drum(x, "words 8;quick 3;quick 2;"), 5);
        c.due("told(3)", x.told(3), 5);
        c.due("told(4)", x.told(4), 1);
        c.due("value(3)", x.value(3), 70);
        c.due("run()", x.run(), 1);
        c.due("drum() of one fewer", Checks.drum(x, "words 8;quick 2;quick 2;"), 4);
        c.due("told(3)", x.told(3), 0);
        c.due("told(4)", x.told(4), 0);
        c.due("value(0)", x.value(0), NO);
        c.due("run()", x.run(), -4);
        c.due("spot(0)", x.spot(0), -2);
        c.due("spoil(0): none lies there", x.spoil(0), -1);
        c.due("drum() of many: it does not come back", Checks.drum(x, "words 32;long;"), 32);
        c.due("told(3)", x.told(3), 0);
        c.due("program()", Checks.program(x, five), 5);
        c.due("told(3)", x.told(3), 5);
    }

    private static void layingsGone() {
        DrumCoder x = Checks.with("a:stop;b=1;");
        for (int slot = 0; slot < 4; slot++) {
            x.keep(slot);
        }
        c.due("take(0)", x.take(0), 1);
        Checks.drum(x, "words 16;long;long;");
        for (int slot = 0; slot < 4; slot++) {
            c.due("take(" + slot + ")", x.take(slot), -4);
        }
    }

    private static void reportGone() {
        DrumCoder x = Checks.with("a:print;b:stop;");
        x.run();
        c.due("ran(3)", x.ran(3), 1);
        c.due("needed()", x.needed(), 1);
        Checks.drum(x, "words 16;long;long;");
        for (int what = 0; what < 6; what++) {
            c.due("ran(" + what + ")", x.ran(what), NO);
        }
        c.due("ran(100)", x.ran(100), NO);
        for (int what = 0; what < 8; what++) {
            c.due("of(0, " + what + ")", x.of(0, what), NO);
        }
        c.due("needed()", x.needed(), 0);
    }

    private static void firstSpots() {
        DrumCoder x = Checks.with(Checks.numbers(6));
        x.lay(0, 31);
        x.lay(5, 16);
        Checks.drum(x, "words 8;quick 2;many 2;");
        int[] due = {0, 1, 8, 9, 10, 11};
        for (int i = 0; i < due.length; i++) {
            c.due("spot(" + i + ")", x.spot(i), due[i]);
        }
        c.due("lay(0, 12): behind the last one it is free", x.lay(0, 12), 0);
        Checks.drum(x, "words 8;quick 2;quick 2;quick 2;");
        int[] full = {0, 1, 8, 9, 16, 17};
        for (int i = 0; i < full.length; i++) {
            c.due("spot(" + i + ") of all that are there", x.spot(i), full[i]);
        }
    }

    private static void noneBad() {
        DrumCoder x = Checks.with("a:stop;b=1;");
        x.spoil(0);
        x.spoil(31);
        c.due("spoil(0)", x.spoil(0), -4);
        Checks.drum(x, "words 16;long;long;");
        c.due("lay(1, 31)", x.lay(1, 31), 1);
        c.due("mend()", x.mend(), 0);
        c.due("spoil(0)", x.spoil(0), 0);
        c.due("spoil(31)", x.spoil(31), 1);
    }

    private static void quickPlaces() {
        DrumCoder x = Checks.with("words 8;quick 7;quick 2;", "a:stop;");
        c.due("lay(0, 6)", x.lay(0, 6), 0);
        c.due("lay(0, 7)", x.lay(0, 7), -2);
        c.due("lay(0, 8)", x.lay(0, 8), 6);
        c.due("lay(0, 9)", x.lay(0, 9), 8);
        for (int spot = 10; spot < 18; spot++) {
            c.due("lay(0, " + spot + ")", x.lay(0, spot), -2);
            c.due("spoil(" + spot + ")", x.spoil(spot), -2);
        }
        DrumCoder y = Checks.with("words 8;quick 8;", "a:stop;");
        c.due("lay(0, 7) of quick 8", y.lay(0, 7), 0);
        c.due("lay(0, 8) of quick 8", y.lay(0, 8), -2);
    }
}
