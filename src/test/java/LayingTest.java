/** Promises 15 to 24: spots, bad ones, times, places, exchanges, best rows, slots. */
public final class LayingTest {
    private static final Checks c = new Checks("LayingTest");

    public static void main(String[] args) {
        spots();
        laying();
        spoiling();
        times();
        places();
        mending();
        exchanges();
        exchangesByHand();
        bestRows();
        slots();
        noNames();
        c.finish();
    }

    private static DrumCoder adder() {
        return Checks.with("a:load x;b:add y;c:store z;d:stop;x=5;y=7;z=0;");
    }

    private static void spots() {
        DrumCoder x = Checks.with("words 8;quick 3;quick 2;long;", "a:stop;b=1;c=2;d=3;e=4;f=5;g=6;");
        int[] due = {0, 1, 2, 8, 9, 16, 17};
        for (int i = 0; i < due.length; i++) {
            c.due("spot(" + i + ")", x.spot(i), due[i]);
        }
        c.due("spot(7)", x.spot(7), -2);
        c.due("spot(-1)", x.spot(-1), -2);
        c.due("spot(MAX)", x.spot(Integer.MAX_VALUE), -2);
    }

    private static void laying() {
        DrumCoder x = Checks.with("words 8;quick 3;long;", "a:stop;b=1;");
        c.due("lay(0, 3): not there", x.lay(0, 3), -2);
        c.due("lay(0, 7): not there", x.lay(0, 7), -2);
        c.due("lay(0, 8)", x.lay(0, 8), 0);
        c.due("spot(0)", x.spot(0), 8);
        c.due("lay(0, 15)", x.lay(0, 15), 8);
        c.due("lay(0, 16)", x.lay(0, 16), -2);
        c.due("lay(0, -1)", x.lay(0, -1), -2);
        c.due("lay(2, 2)", x.lay(2, 2), -2);
        c.due("lay(-1, 2)", x.lay(-1, 2), -2);
        c.due("lay(0, 15) again", x.lay(0, 15), 15);
        c.due("lay(0, 1): another lies there", x.lay(0, 1), -4);
        c.due("lay(1, 0): it is free now", x.lay(1, 0), 1);
        c.due("lay(0, 1): it is free now", x.lay(0, 1), 15);
        x.spoil(1);
        c.due("lay(0, 1): its own, that is bad", x.lay(0, 1), -4);
        x.spoil(12);
        c.due("lay(0, 12): bad", x.lay(0, 12), -4);
        c.due("lay(9, 12): no name", x.lay(9, 12), -2);
        c.due("lay(0, 13)", x.lay(0, 13), 1);
        c.due("lay(1, 1): bad still", x.lay(1, 1), -4);
        c.due("lay(0, MIN)", x.lay(0, Integer.MIN_VALUE), -2);
    }

    private static void spoiling() {
        DrumCoder x = Checks.with("words 8;quick 3;long;", "a:stop;b=1;");
        c.due("spoil(1)", x.spoil(1), 1);
        c.due("spoil(1) again", x.spoil(1), -4);
        c.due("spoil(2)", x.spoil(2), -1);
        c.due("spoil(3): not there", x.spoil(3), -2);
        c.due("spoil(16)", x.spoil(16), -2);
        c.due("spoil(-1)", x.spoil(-1), -2);
        c.due("spoil(MAX)", x.spoil(Integer.MAX_VALUE), -2);
        c.due("spot(1) stays", x.spot(1), 1);
        c.due("time() on a bad spot", x.time(), 1);
        Checks.program(x, "a:stop;b=1;");
        c.due("spoil(1) behind a program", x.spoil(1), 1);
        DrumCoder none = new DrumCoder();
        c.due("spoil(0) without names", none.spoil(0), -1);
        c.due("spoil(0) again", none.spoil(0), -4);
    }

    private static void times() {
        DrumCoder x = adder();
        c.due("time()", x.time(), 52);
        x.entry(3);
        c.due("time() from the stop", x.time(), 4);
        x.entry(0);
        x.set(1, -1);
        c.due("time() of a wrong one: a, x, b", x.time(), 18);
        DrumCoder late = Checks.with("a:halve to a;");
        // 2000 times round the drum, the first wait none
        c.due("time() of a late one", late.time(), 1999 * 16 + 1);
    }

    private static void places() {
        DrumCoder x = Checks.with("a:load w;b:stop;w=5;");
        // a 0..1, w 2..3, b best at 3
        c.due("place(1)", x.place(1), 3);
        c.due("spot(1) stays", x.spot(1), 1);
        c.due("time() stays", x.time(), 18);
        // w at 2 makes it wait 1, b waits to 17 by any w: 2 is not the least spot, but 0, 1 are taken; 16.. are free
        c.due("place(2): all take 18, the least is its own", x.place(2), 2);
        x.lay(2, 30);
        c.due("place(2) from afar", x.place(2), 2);
        c.due("spot(2) stays", x.spot(2), 30);
        x.spoil(2);
        c.due("place(2), one bad", x.place(2), 3);
        c.due("place(1), one bad", x.place(1), 15);
        c.due("place(3)", x.place(3), -2);
        c.due("place(-1)", x.place(-1), -2);
        DrumCoder tight = Checks.with("words 8;quick 2;", "a:stop;b=1;");
        c.due("place(0) with none free", tight.place(0), 0);
        tight.spoil(1);
        c.due("place(1) with none free, its own bad", tight.place(1), -1);
        c.due("place(0) with none free", tight.place(0), 0);
        tight.spoil(0);
        c.due("place(0), its own bad too", tight.place(0), -1);
    }

    private static void mending() {
        DrumCoder x = Checks.with("a:load w;b:stop;w=5;");
        c.due("mend() with none bad", x.mend(), 0);
        x.spoil(9);
        c.due("mend() with none on a bad one", x.mend(), 0);
        x.spoil(1);
        x.spoil(2);
        c.due("mend()", x.mend(), 2);
        // b goes first: with w at 2 it is best at 3; then w: 17 comes at 1, and takes b no more
        c.due("spot(0)", x.spot(0), 0);
        c.due("spot(1)", x.spot(1), 3);
        c.due("spot(2)", x.spot(2), 17);
        c.due("time()", x.time(), 4);
        c.due("mend() again", x.mend(), 0);
        DrumCoder tight = Checks.with("words 8;quick 3;", "a:stop;b=1;");
        tight.spoil(0);
        tight.spoil(1);
        c.due("mend() with one free", tight.mend(), 1);
        c.due("spot(0)", tight.spot(0), 2);
        c.due("spot(1) stays", tight.spot(1), 1);
        c.due("mend() with none free", tight.mend(), 0);
    }

    private static void exchanges() {
        DrumCoder x = adder();
        int time = x.exchange();
        c.due("exchange() and time()", x.time(), time);
        c.due("exchange() again finds nothing", x.exchange(), time);
        boolean[] seen = new boolean[7];
        for (int i = 0; i < 7; i++) {
            int spot = x.spot(i);
            c.due("spot(" + i + ") is one of theirs", spot >= 0 && spot < 7 && !seen[spot] ? 1 : 0, 1);
            seen[Math.floorMod(spot, 7)] = true;
        }
        DrumCoder one = Checks.with("a:stop;");
        c.due("exchange() of one name", one.exchange(), 1);
        DrumCoder late = Checks.with("a:halve to b;b:halve to a;c=1;");
        c.due("exchange() of a late one", late.exchange(), late.time());
    }

    private static void exchangesByHand() {
        // a at 0, b at 1, w at 2: a 0..1, w 2..3, b 17..18
        DrumCoder x = Checks.with("a:load w;b:stop;w=5;");
        // a, b: a 1..2, w 2..3, b 16..17: less, done. a, w: a 2..3, w 17..18, b 32: no. b, w: w 16, no.
        // next round: a, b back: no. a, w: no. b, w: a 1..2, w 16..17, b 18..19: no.
        c.due("exchange()", x.exchange(), 17);
        c.due("spot(0)", x.spot(0), 1);
        c.due("spot(1)", x.spot(1), 0);
        c.due("spot(2)", x.spot(2), 2);
        // with b on a bad spot, only a and w may change places
        DrumCoder y = Checks.with("a:load w;b:stop;w=5;");
        y.spoil(1);
        c.due("exchange() without b", y.exchange(), 18);
        c.due("spot(0)", y.spot(0), 0);
        c.due("spot(1)", y.spot(1), 1);
        // times that are the same bring no exchange: w and v come at the same time
        DrumCoder z = Checks.with("words 8;long;many 2;", "a:load w;b:stop;w=5;v=6;");
        z.lay(2, 9);
        z.lay(1, 2);
        z.lay(3, 13);
        c.due("exchange() with no wait left", z.exchange(), 3);
        int[] stay = {0, 2, 9, 13};
        for (int i = 0; i < stay.length; i++) {
            c.due("spot(" + i + ")", z.spot(i), stay[i]);
        }
    }

    private static void bestRows() {
        DrumCoder x = Checks.with("a:load w;b:stop;w=5;v=6;u=7;t=8;s=9;");
        c.due("best(0)", x.best(0L), -2);
        c.due("best(128): no name", x.best(128L), -2);
        c.due("best(129): no name", x.best(129L), -2);
        c.due("best(-1)", x.best(-1L), -2);
        c.due("best(MIN)", x.best(Long.MIN_VALUE), -2);
        c.due("best(1L << 32)", x.best(1L << 32), -2);
        c.due("best(127): seven", x.best(127L), -2);
        c.due("best(1)", x.best(1L), 18);
        c.due("best(8): not in the run", x.best(8L), 18);
        x.lay(0, 21);
        x.lay(1, 3);
        x.lay(3, 16);
        // of names that are not in the run the least row is laid: their spots rise
        c.due("best(v u t s)", x.best(120L), x.time());
        c.due("spot(3)", x.spot(3), 4);
        c.due("spot(4)", x.spot(4), 5);
        c.due("spot(5)", x.spot(5), 6);
        c.due("spot(6)", x.spot(6), 16);
        x.spoil(4);
        c.due("best(v)", x.best(8L), -4);
        c.due("best(v and no name)", x.best(136L), -2);
        c.due("best(u)", x.best(16L), x.time());
        // the last of 720 rows is the best one: each order comes one place ahead of the next
        DrumCoder z = Checks.with("words 8;long;", "f:stop;e:stop to f;d=0;c=0;b=0;a=0;");
        z.set(5, 90004);
        z.set(4, 90003);
        z.set(3, 90002);
        z.set(2, 90001);
        z.set(1, 90000);
        z.entry(5);
        c.due("time() of the rising row", z.time(), 5 + 1 + 5 * 7 + 5 - 5);
        c.due("best() of six", z.best(63L), 6);
        for (int i = 0; i < 6; i++) {
            c.due("spot(" + i + ")", z.spot(i), 5 - i);
        }
        // of rows that take the same time the least one, by rising names
        DrumCoder t = Checks.with("words 8;quick 2;quick 2;", "a:stop;b=1;c=2;");
        t.lay(0, 9);
        t.lay(1, 0);
        c.due("best(a b c)", t.best(7L), 1);
        c.due("spot(0)", t.spot(0), 0);
        c.due("spot(1)", t.spot(1), 8);
        c.due("spot(2)", t.spot(2), 9);
        DrumCoder forty = new DrumCoder();
        StringBuilder text = new StringBuilder();
        for (int i = 0; i < 40; i++) {
            text.append((char) ('a' + i / 26)).append((char) ('a' + i % 26)).append(":stop;");
        }
        Checks.drum(forty, "words 20;long;long;");
        Checks.program(forty, text.toString());
        forty.entry(39);
        c.due("time() of the last", forty.time(), 20);
        c.due("best() with the last", forty.best(1L << 39 | 1L), 1);
        c.due("spot(39)", forty.spot(39), 0);
        c.due("best() of the 41st", forty.best(1L << 40), -2);
    }

    private static void slots() {
        DrumCoder x = Checks.with("a:load w;b:stop;w=5;");
        c.due("take(0) of none", x.take(0), -4);
        c.due("keep(-1)", x.keep(-1), -2);
        c.due("keep(4)", x.keep(4), -2);
        c.due("take(-1)", x.take(-1), -2);
        c.due("take(4)", x.take(4), -2);
        c.due("keep(0)", x.keep(0), 1);
        x.lay(1, 3);
        c.due("keep(3)", x.keep(3), 1);
        c.due("time()", x.time(), 4);
        c.due("take(0)", x.take(0), 18);
        c.due("spot(1)", x.spot(1), 1);
        c.due("lay(0, 3): free again", x.lay(0, 3), 0);
        c.due("lay(2, 0): free", x.lay(2, 0), 2);
        c.due("take(3)", x.take(3), 4);
        c.due("spot(0)", x.spot(0), 0);
        c.due("spot(1)", x.spot(1), 3);
        c.due("spot(2)", x.spot(2), 2);
        c.due("take(1)", x.take(1), -4);
        x.spoil(1);
        c.due("take(0), one of its spots bad", x.take(0), -4);
        c.due("spot(1) stays", x.spot(1), 3);
        c.due("take(3), none of its spots bad", x.take(3), 4);
        x.set(1, 10202);
        c.due("take(3): the time is by the values as they are", x.take(3), x.time());
        x.spoil(0);
        c.due("keep(1) with a bad spot", x.keep(1), 1);
        c.due("take(1) with a bad spot", x.take(1), -4);
        Checks.program(x, "a:load");
        c.due("keep(2) behind a fault", x.keep(2), 1);
        Checks.program(x, "a:stop;b=1;c=2;");
        for (int slot = 0; slot < 4; slot++) {
            c.due("take(" + slot + ") behind a program", x.take(slot), -4);
        }
        x.keep(2);
        Checks.drum(x, "words 8;long;");
        c.due("take(2) behind a drum", x.take(2), -4);
    }

    private static void noNames() {
        DrumCoder x = new DrumCoder();
        c.due("spot(0)", x.spot(0), -2);
        c.due("lay(0, 0)", x.lay(0, 0), -2);
        c.due("time()", x.time(), -4);
        c.due("place(0)", x.place(0), -2);
        c.due("mend()", x.mend(), -4);
        c.due("exchange()", x.exchange(), -4);
        c.due("best(1)", x.best(1L), -2);
        c.due("keep(0)", x.keep(0), -4);
        c.due("keep(4)", x.keep(4), -2);
        c.due("take(0)", x.take(0), -4);
        c.due("take(4)", x.take(4), -2);
    }
}
