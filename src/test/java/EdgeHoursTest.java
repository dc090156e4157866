/** The boundary cases of promises 8 to 17, and of the Terms that they take over (AN HOUR among them). */
public final class EdgeHoursTest extends Checks {
    private static final int LEAST = Integer.MIN_VALUE;
    private static final int MOST = Integer.MAX_VALUE;

    public static void main(String[] args) {
        bargeWhats();
        winds();
        passengerWhats();
        sheetKinds();
        sheetEntries();
        sheetRefused();
        hoursTaken();
        steps();
        ends();
        locks();
        blownBack();
        notBlownBack();
        breaths();
        changing();
        waking();
        loading();
        turning();
        journeySigns();
        journeyActs();
        journeyStops();
        undoing();
        undoKept();
        undoForgotten();
        finish();
    }

    // ---- 8, 9: barge, passenger

    private static void bargeWhats() {
        int[] bad = {-1, 3, 4, LEAST, MOST};
        for (int barge : bad) {
            throwsNone("8 no barge " + barge, Checks::fullWorld, x -> x.barge(barge, 0));
        }
        int[] whats = {-1, 7, LEAST, MOST};
        for (int what : whats) {
            throwsNone("8 another what: " + what, Checks::fullWorld, x -> x.barge(2, what));
        }
        isNone("8 neither", () -> fullWorld().barge(3, 7));
        isNone("8 without barges", () -> new BargesByBreath().barge(0, 0));
        BargesByBreath x = world("....", "0+0;1-9;2+4;3-5", "13a;23s", "b");
        int[][] due = {{0, 0, 0, 0, 0, 0, 0}, {1, 1, 9, 0, 0, 0, 0}, {2, 0, 4, 0, 0, 0, 0}, {3, 1, 5, 0, 0, 1, 3}};
        for (int barge = 0; barge < 4; barge++) {
            for (int what = 0; what < 7; what++) {
                is("8 barge " + barge + ", what " + what, x.barge(barge, what), due[barge][what]);
            }
        }
    }

    private static void winds() {
        // PUFFS 9 and 3, less CARGO, less two sleepers
        for (int cargo = 0; cargo <= 9; cargo++) {
            BargesByBreath x = world("....", "0+" + cargo, "90a;90s;30a;90s", "b");
            is("8 WIND with CARGO " + cargo, x.barge(0, 4), 10 - cargo);
            is("8 HOLD", x.barge(0, 5), 12);
            BargesByBreath y = world("....", "0+" + cargo, "60a;90s", "b");
            is("8 WIND is 0 at least", y.barge(0, 4), Math.max(0, 5 - cargo));
        }
        BargesByBreath nobody = world("....", "0+0;1+1", "");
        is("8 WIND of nobody", nobody.barge(0, 4), 0);
        is("8 WIND of nobody, less CARGO", nobody.barge(1, 4), 0);
        is("8 HOLD of nobody", nobody.barge(0, 5), 0);
        is("8 nobody aboard", nobody.barge(0, 6), 0);
        BargesByBreath full = world("....", "0+0", lines("90a", 9), "b");
        is("8 WIND of nine", full.barge(0, 4), 81);
        is("8 HOLD of nine", full.barge(0, 5), 81);
        is("8 nine aboard", full.barge(0, 6), 0b111111111);
        BargesByBreath asleep = world("....", "0+0", lines("90s", 9), "b");
        is("8 WIND of sleepers", asleep.barge(0, 4), 0);
        is("8 HOLD of sleepers", asleep.barge(0, 5), 0);
        is("8 sleepers are aboard", asleep.barge(0, 6), 0b111111111);
        BargesByBreath there = world("....", "3+0", "");
        is("8 not THERE ahead of an HOUR", there.barge(0, 3), 0);
        there.hours(1);
        is("8 THERE", there.barge(0, 3), 1);
    }

    private static void passengerWhats() {
        int[] bad = {-1, 4, 9, LEAST, MOST};
        for (int passenger : bad) {
            throwsNone("9 no passenger " + passenger, Checks::fullWorld, x -> x.passenger(passenger, 0));
        }
        int[] whats = {-1, 5, LEAST, MOST};
        for (int what : whats) {
            throwsNone("9 another what: " + what, Checks::fullWorld, x -> x.passenger(3, what));
        }
        isNone("9 without passengers", () -> world("....", "0+0", "").passenger(0, 0));
        BargesByBreath x = world("....", "0+0;1+0;2+0;3+0", lines("10s", 8) + ";93a", "b-1");
        int[] due = {9, 3, 1, 9, 8};
        int[] first = {1, 0, 0, 1, 0};
        for (int what = 0; what < 5; what++) {
            is("9 the ninth, what " + what, x.passenger(8, what), due[what]);
            is("9 the first, what " + what, x.passenger(0, what), first[what]);
        }
        isNone("9 a tenth", () -> x.passenger(9, 0));
        // barge 0 stands at its end, so it is THERE after an HOUR
        BargesByBreath met = world("....", "3+0;2+0", "51a", "m*3");
        is("9 PUFF by m", met.passenger(0, 4), 3);
        is("9 the barge that is met is THERE", met.hours(1), 1);
        is("9 PUFF by m, of a barge that is THERE, too", met.passenger(0, 4), 3);
    }

    // ---- 10: sheet

    /** LUNGS 5, 9 and 1. */
    private static BargesByBreath three() {
        return world("....", "0+0", "50a;90s;10a");
    }

    private static void breathIs(String what, BargesByBreath x, int one, int two, int three) {
        is(what, x.passenger(0, 3), one);
        is(what, x.passenger(1, 3), two);
        is(what, x.passenger(2, 3), three);
    }

    private static void sheetKinds() {
        for (int kind = 0; kind <= 2; kind++) {
            BargesByBreath x = three();
            is("10 of three", x.sheet(kind, 3, 1, 0), 3);
            is("10 no entries", x.sheet(kind, 0, 5, 5), 0);
            breathIs("10 those behind it have 0", x, 0, 0, 0);
            is("10 one entry", x.sheet(kind, 1, 4, 4), 4);
            breathIs("10 those behind it have 0", x, 4, 0, 0);
            is("10 two entries", x.sheet(kind, 2, 4, 1), 9);
            breathIs("10 those behind it have 0", x, 4, 5, 0);
            is("10 nine entries for three", x.sheet(kind, 9, 3, 1), 3 + 4 + 1);
            is("10 LUNGS", x.sheet(kind, 3, 9, 0), 15);
            breathIs("10 LUNGS at most", x, 5, 9, 1);
            is("10 a step down", x.sheet(kind, 3, 1, -1), 1);
            breathIs("10 0 at least", x, 1, 0, 0);
            BargesByBreath nine = world("....", "0+0", lines("90a", 9));
            is("10 nine entries", nine.sheet(kind, 9, 0, 1), 36);
            is("10 the ninth", nine.passenger(8, 3), 8);
            is("10 with nobody", new BargesByBreath().sheet(kind, 9, 1, 1), 0);
        }
        for (int n : new int[] {LEAST, -1, 0, 9}) {
            BargesByBreath x = three();
            is("10 a missing one, n " + n, x.sheet(3, n, 5, 1), -3);
            breathIs("10 a missing one: all 0", x, 0, 0, 0);
        }
        is("10 missing, with nobody", new BargesByBreath().sheet(3, 0, 0, 0), -3);
        BargesByBreath x = fullWorld();
        int before = x.count(9);
        is("10 none is put to undo", x.sheet(2, 4, 1, 1) >= 0 && x.count(9) == before, true);
        is("10 who is AWAKE stays so", x.count(5), fullWorld().count(5));
        is("10 what is kept stays", x.again(0) && x.again(1), true);
    }

    private static void sheetEntries() {
        // what one entry comes to, put to 0 .. 9
        int[] entries = {-1, 0, 1, 9, 10, 127, 128, 129, 255, 256, 257, 265, -127, -128, -129, -255, -256,
            32767, 32768, 32769, 65535, 65536, 65537, 65545, -32767, -32768, -32769, -65535, LEAST, LEAST + 1, MOST, MOST - 1};
        BargesByBreath x = world("....", "0+0", "90a");
        for (int f : entries) {
            is("10 a byte of " + f, x.sheet(0, 1, f, 0), Math.max(0, Math.min(9, (f % 256 + 384) % 256 - 128)));
            is("10 a short of " + f, x.sheet(1, 1, f, 0), Math.max(0, Math.min(9, (f % 65536 + 98304) % 65536 - 32768)));
            is("10 an int of " + f, x.sheet(2, 1, f, 0), Math.max(0, Math.min(9, f)));
        }
        BargesByBreath y = three();
        is("10 bytes wrap around", y.sheet(0, 3, 127, 130), 5 + 1);
        breathIs("10 bytes: 127, 257, 387", y, 5, 1, 0);
        is("10 shorts wrap around", y.sheet(1, 3, 32767, 32772), 5 + 3 + 0);
        breathIs("10 shorts: 32767, 65539, 98311 less 131072", y, 5, 3, 0);
        is("10 ints wrap around", y.sheet(2, 3, MOST, 1), 5);
        breathIs("10 ints: the greatest, the least, one more", y, 5, 0, 0);
        is("10 ints wrap around", y.sheet(2, 3, LEAST, -1), 9 + 1);
        breathIs("10 ints: the least, the greatest", y, 0, 9, 1);
    }

    private static void sheetRefused() {
        for (int kind = 0; kind <= 2; kind++) {
            int k = kind;
            refused("10 n -1 of kind " + kind, -2, x -> x.sheet(k, -1, 1, 1));
            refused("10 the least n of kind " + kind, -2, x -> x.sheet(k, LEAST, 1, 1));
        }
        for (int kind = 0; kind <= 3; kind++) {
            int k = kind;
            refused("10 n 10 of kind " + kind, -1, x -> x.sheet(k, 10, 1, 1));
            refused("10 the greatest n of kind " + kind, -1, x -> x.sheet(k, MOST, 1, 1));
        }
        for (int kind : new int[] {-1, 4, LEAST, MOST}) {
            refused("10 kind " + kind, -1, x -> x.sheet(kind, 3, 1, 1));
            refused("10 kind " + kind + " ahead of n below 0", -1, x -> x.sheet(kind, -1, 1, 1));
        }
    }

    // ---- 11: hours

    private static void hoursTaken() {
        for (int n : new int[] {-1, 61, LEAST, MOST}) {
            refused("11 n " + n, -1, x -> x.hours(n));
        }
        // one CELL in HOUR 11, 23, 35, 47, 59
        BargesByBreath x = world("......", "0+0", "10a", "n=11");
        tells("11 sixty", x, x.hours(60), 1, 5, 0);
        is("11 HOUR", x.count(3), 60);
        BargesByBreath y = world("......", "0+0", "10a", "n=11");
        tells("11 fifty-nine", y, y.hours(59), 0, 4, 0);
        tells("11 one", y, y.hours(1), 1, 1, 0);
        is("11 HOUR", y.count(3), 60);
        tells("11 none", y, y.hours(0), 1, 0, 0);
        is("11 HOUR", y.count(3), 60);
        BargesByBreath z = fullWorld();
        z.hours(0);
        BargesByBreath twin = fullWorld();
        twin.fits();
        z.fits();
        sameInAll("11 none: nothing changes", z, twin);
        BargesByBreath all = world("......", "4+0;1-0;5+0;0-0", "90a;91a");
        tells("11 two stood at their ends, the others stop behind them", all, all.hours(1), 2, 0, 0);
        is("11 the ends are taken", all.count(4), 0b1100);
        BargesByBreath nobody = new BargesByBreath();
        tells("11 without barges", nobody, nobody.hours(60), 0, 0, 0);
        is("11 HOUR without barges", nobody.count(3), 60);
        BargesByBreath still = world("....", "1+0", "90s");
        is("11 nothing moves", still.hours(60), 0);
        is("11 HOUR where nothing moves", still.count(3), 60);
    }

    /** So many times as a third of its WIND, rounded up, 3 at most. */
    private static void steps() {
        int[] cells = {0, 1, 1, 1, 2, 2, 2, 3, 3, 3, 3, 3, 3, 3};
        for (int wind = 0; wind < cells.length; wind++) {
            BargesByBreath up = world(many(".", 30), "5+0", "90a;90a");
            up.sheet(2, 2, Math.min(9, wind), wind > 9 ? wind - 18 : -9);
            say(up, "b").rule();
            is("11 WIND", up.barge(0, 4), wind);
            tells("11 up by WIND " + wind, up, up.hours(1), 0, cells[wind], 0);
            is("11 up by WIND " + wind, up.barge(0, 0), 5 + cells[wind]);
            BargesByBreath down = world(many(".", 30), "5-0", "90a;90a", "b");
            down.sheet(2, 2, Math.min(9, wind), wind > 9 ? wind - 18 : -9);
            tells("11 down by WIND " + wind, down, down.hours(1), 0, cells[wind], 0);
            is("11 down by WIND " + wind, down.barge(0, 0), 5 - cells[wind]);
        }
        BargesByBreath most = world(many(".", 30), "0+0", lines("90a", 9), "b");
        tells("11 WIND 81", most, most.hours(1), 0, 3, 0);
        // barge 1 is on its way when barge 0 has gone: by their numbers
        BargesByBreath first = world("........", "0+0;1+0", "90a;91a");
        tells("11 the first one is stopped by the second", first, first.hours(1), 0, 2, 0);
        is("11 by their numbers", first.barge(0, 0) * 10 + first.barge(1, 0), 3);
        BargesByBreath second = world("........", "1+0;0+0", "90a;91a");
        tells("11 the second one goes when the first has gone", second, second.hours(1), 0, 4, 0);
        is("11 by their numbers", second.barge(0, 0) * 10 + second.barge(1, 0), 32);
        // WIND is as ahead of the HOUR: m of barge 1 was 1, though barge 0 leaves the next CELL
        BargesByBreath ahead = world("........", "2+0;1+0", "80a;91a", "9*m+(l=8)*8");
        is("11 WIND", ahead.barge(1, 4), 9);
        tells("11 WIND is as all is ahead of it", ahead, ahead.hours(1), 0, 6, 0);
    }

    private static void ends() {
        for (int away = 0; away <= 4; away++) {
            BargesByBreath up = world("......", (5 - away) + "+0", "90a", "b");
            tells("11 " + away + " from its end, up", up, up.hours(1), away <= 3 ? 1 : 0, Math.min(3, away), 0);
            is("11 it goes no more", up.barge(0, 0), Math.min(5, 8 - away));
            is("11 THERE", up.count(4), away <= 3 ? 1 : 0);
            BargesByBreath down = world("......", away + "-0", "90a", "b");
            tells("11 " + away + " from its end, down", down, down.hours(1), away <= 3 ? 1 : 0, Math.min(3, away), 0);
            is("11 it goes no more", down.barge(0, 0), Math.max(0, away - 3));
        }
        BargesByBreath still = world("....", "0-9;3+9;1+0;2-0", "");
        is("11 each one at the end of its HEADING is THERE, without WIND, too", still.hours(1), 2);
        is("11 these", still.count(4), 0b0011);
        BargesByBreath wrong = world("....", "0+0;3-0", "");
        is("11 at the other end it is not", wrong.hours(60), 0);
        BargesByBreath there = world("....", "3+0", "90a");
        there.hours(1);
        there.turnsRound(0);
        there.turnsRound(0);
        is("11 not THERE till an HOUR has gone", there.count(4), 0);
        is("11 THERE again", there.hours(1), 1);
    }

    private static void locks() {
        for (int lock = 1; lock <= 9; lock++) {
            for (int hold = 1; hold <= 9; hold++) {
                BargesByBreath x = world(".." + lock + "...", "1+0", hold + "0a", "b");
                x.hours(1);
                is("11 a LOCK of " + lock + " by HOLD " + hold, x.barge(0, 0) > 1, hold >= lock);
                is("11 it stops ahead of it", x.barge(0, 0) >= 1, true);
            }
        }
        BargesByBreath sleepers = world("..5...", "1+0", "40a;90s", "b");
        tells("11 BREATH of sleepers holds none, WIND 3", sleepers, sleepers.hours(1), 0, 0, 0);
        sleepers.sheet(2, 2, 4, 0);
        sleepers.wakes(1);
        tells("11 when it wakes it does", sleepers, sleepers.hours(1), 0, 3, 0);
        BargesByBreath both = world(".44.....", "0+0", "40a", "b");
        tells("11 two LOCKS in one HOUR, by the same HOLD", both, both.hours(1), 0, 2, 0);
        BargesByBreath stop = world("..45....", "1+0", "40a", "b");
        tells("11 it stops at the second one", stop, stop.hours(1), 0, 1, 0);
        is("11 on the first one", stop.barge(0, 0), 2);
        BargesByBreath last = world("...9", "1+0", "90a", "b");
        tells("11 a LOCK at the end", last, last.hours(1), 1, 2, 0);
        BargesByBreath down = world("..5...", "3-0", "50a", "b");
        tells("11 a LOCK down", down, down.hours(1), 0, 2, 0);
        BargesByBreath less = world("..5...", "3-0", "40a", "b");
        tells("11 a LOCK of more, down", less, less.hours(1), 0, 0, 0);
    }

    private static void blownBack() {
        BargesByBreath up = world("........", "1+0;2-0", "90a;81a");
        tells("11 of less WIND (5, 4)", up, up.hours(1), 0, 2, 2);
        is("11 BLOWN BACK", up.barge(0, 0) * 10 + up.barge(1, 0), 34);
        tells("11 in these, not in those ahead of them", up, up.hours(0), 0, 0, 0);
        BargesByBreath down = world("........", "6-0;5+0", "90a;81a");
        tells("11 of less WIND, down", down, down.hours(1), 0, 2, 2);
        is("11 BLOWN BACK, down", down.barge(0, 0) * 10 + down.barge(1, 0), 43);
        BargesByBreath three = world("........", "1+0;2-0", "90a", "b");
        tells("11 three times", three, three.hours(1), 0, 3, 3);
        is("11 three times", three.barge(1, 0), 5);
        BargesByBreath bend = world("...b....", "1+0;2-0", "20a");
        tells("11 to a BEND", bend, bend.hours(1), 0, 1, 1);
        is("11 to a BEND", bend.barge(1, 0), 3);
        BargesByBreath lock = world("....1...", "1+0;2-0", "90a", "b");
        tells("11 to the CELL ahead of a LOCK, and no farther", lock, lock.hours(1), 0, 1, 1);
        is("11 not to a LOCK", lock.barge(1, 0), 3);
        BargesByBreath end = world("......", "2+0;3-0", "90a", "b");
        tells("11 to the last CELL", end, end.hours(1), 0, 2, 2);
        is("11 to the last CELL, and no farther", end.barge(1, 0), 5);
        is("11 that is not the end of its HEADING", end.count(4), 0);
        // barge 0 goes 2 ahead, then barge 1 blows it back 3
        BargesByBreath later = world(many(".", 12), "2+0;5-0", "40a;91a;91a", "b");
        tells("11 by one that goes later", later, later.hours(1), 0, 5, 3);
        is("11 by one that goes later", later.barge(0, 0) * 10 + later.barge(1, 0), 12);
        // on a LOCK: barge 1 is on CELL 3 after an HOUR
        BargesByBreath on = world("...1....", "1+0;4-0", "90a;11a", "l=1");
        on.hours(1);
        is("11 one is on the LOCK, the other one stands", on.barge(0, 0) * 10 + on.barge(1, 0), 13);
        on.sheet(2, 2, 9, -9);
        say(on, "b").rule();
        tells("11 from a LOCK it is BLOWN BACK", on, on.hours(1), 0, 3, 2);
        is("11 from a LOCK", on.barge(0, 0) * 10 + on.barge(1, 0), 45);
    }

    private static void stands(String what, String canal, String barges, String passengers) {
        BargesByBreath x = world(canal, barges, passengers);
        int cell = x.barge(0, 0);
        int other = x.barge(1, 0);
        x.hours(1);
        rowIs(what, x, 0, 0);
        is(what, x.barge(0, 0), cell);
        is(what + ": the other one", x.barge(1, 0), other);
    }

    private static void notBlownBack() {
        stands("11 not of as much WIND", "........", "1+0;2-0", "90a;91a");
        stands("11 not of more WIND, where there is no room", "....", "1-0;0+0", "80a");
        stands("11 not of the same HEADING", "........", "1+0;2+0", "90a");
        stands("11 not of the same HEADING, down", "........", "6-0;5-0", "90a");
        stands("11 not to a LOCK", "...1....", "1+0;2-0", "90a");
        stands("11 not to a LOCK, down", "....9...", "6-0;5+0", "90a");
        BargesByBreath held = world("...1....", "1+0;2-0", "90a;51a", "(l=9)*9");
        is("11 HOLD of the one that is to be BLOWN BACK", held.barge(1, 5), 5);
        tells("11 not to a LOCK, though of less than its HOLD", held, held.hours(1), 0, 0, 0);
        stands("11 not where a barge is", "........", "1+0;2-0;3-0", "90a");
        stands("11 not where a barge is of the same HEADING", "........", "1+0;2-0;3+0", "90a");
        BargesByBreath zero = world("........", "3-0;1+0;2-0", "91a");
        tells("11 not where barge 0 is", zero, zero.hours(1), 0, 0, 0);
        stands("11 not where there is no CELL", "........", "6+0;7-0", "90a");
        stands("11 not where there is no CELL, down", "........", "1-0;0+0", "90a");
        BargesByBreath there = world("....", "2+0;3+0", "90a");
        there.hours(1);
        tells("11 not one that is THERE", there, there.hours(3), 1, 0, 0);
        is("11 not one that is THERE", there.barge(0, 0), 2);
        BargesByBreath turned = world("....", "2+0;3+0", "90a");
        turned.hours(1);
        turned.turnsRound(1);
        tells("11 nor one that has turned at the end: no CELL", turned, turned.hours(3), 0, 0, 0);
        BargesByBreath none = world("........", "1+0;2-0", "");
        tells("11 without WIND both stand", none, none.hours(9), 0, 0, 0);
    }

    private static void breaths() {
        for (int bend = 0; bend < 2; bend++) {
            String canal = bend == 1 ? "bbbb" : "....";
            for (int before = 0; before <= 9; before++) {
                BargesByBreath x = world(canal, "0+9", "90a;90s", "0");
                x.sheet(2, 2, before, 0);
                x.breath(1);
                rowIs("11 1 more, on a BEND 2 more if AWAKE, LUNGS at most", x, Math.min(9, before + 1 + bend), Math.min(9, before + 1));
                say(x, "b").rule();
                x.breath(1);
                rowIs("11 less PUFF", x, 1 + bend, Math.min(9, before + 1));
            }
            BargesByBreath small = world(canal, "0+9", "10a;10s", "0");
            small.sheet(3, 0, 0, 0);
            small.breath(1);
            rowIs("11 LUNGS of 1 at most", small, 1, 1);
        }
        BargesByBreath end = world("....", "3+0;0-0", "90s;91a", "0");
        end.sheet(3, 0, 0, 0);
        is("11 both are THERE in the first of five HOURS", end.hours(5), 2);
        is("11 1 more in each of five HOURS", end.passenger(0, 3) * 10 + end.passenger(1, 3), 55);
        BargesByBreath on = world("..b.", "1+0", "90a", "1");
        on.sheet(2, 1, 5, 0);
        on.hours(1);
        is("11 on the BEND that it went to", on.passenger(0, 3), 5 - 1 + 2);
        on.hours(1);
        is("11 not on the one that it left", on.passenger(0, 3), 6 - 1 + 1);
        BargesByBreath back = world("...b....", "1+0;2-0", "20a;51a", "(l=2)");
        back.sheet(2, 2, 2, -2);
        back.hours(1);
        is("11 on the BEND that it was blown to", back.passenger(1, 3), 2);
        // PUFF as ahead: m was 1, and is 0 when the other one has gone
        BargesByBreath ahead = world("......", "2+0;1+0", "90a;91a", "2+m*3");
        ahead.hours(1);
        is("11 PUFF as ahead", ahead.passenger(1, 3), 9 - 5 + 1);
    }

    // ---- 12 to 15: changes, wakes, loads, turnsRound

    private static void changing() {
        BargesByBreath x = world("......", "2+0;1-9;3+1;5-0", "90a;80s;70a;10a");
        is("12 to the CELL before", x.changes(0, 1), 1);
        is("12 to the CELL behind", x.changes(1, 2), 1);
        is("12 one more", x.changes(2, 2), 2);
        is("12 back", x.changes(2, 0), 2);
        is("12 two CELLS off", x.changes(2, 3), -3);
        is("12 its own", x.changes(2, 0), -2);
        is("12 those aboard", x.barge(0, 6) * 1000 + x.barge(1, 6) * 100 + x.barge(2, 6) * 10 + x.barge(3, 6), 0b1100 * 1000 + 100 + 20);
        is("12 BREATH goes along", x.passenger(0, 3), 9);
        is("12 asleep", x.passenger(1, 2), 0);
        is("12 what was done", x.count(9), 4);
        BargesByBreath full = world("....", "0+0;1+0", lines("91a", 8) + ";90a");
        is("12 nine are aboard", full.changes(8, 1), 9);
        refused("12 it is aboard it", -2, y -> y.changes(0, 0));
        refused("12 it is not beside", -3, y -> y.changes(0, 2));
        int[][] bad = {{-1, 0}, {4, 0}, {0, -1}, {0, 3}, {4, 3}, {LEAST, MOST}, {MOST, LEAST}};
        for (int[] b : bad) {
            refused("12 none such: " + b[0] + ", " + b[1], -1, y -> y.changes(b[0], b[1]));
        }
        is("12 without any", new BargesByBreath().changes(0, 0), -1);
    }

    private static void waking() {
        BargesByBreath x = world("....", "0+0", lines("90s", 9));
        for (int p = 0; p < 9; p++) {
            is("13 wakes", x.wakes(p), p + 1);
            is("13 AWAKE", x.passenger(p, 2), 1);
        }
        is("13 all", x.count(5), 0b111111111);
        for (int p = 0; p < 9; p++) {
            is("13 falls asleep", x.wakes(p), 8 - p);
        }
        is("13 none", x.count(5), 0);
        is("13 BREATH stays", x.count(6), 81);
        for (int p : new int[] {-1, 4, LEAST, MOST}) {
            refused("13 none such: " + p, -1, y -> y.wakes(p));
        }
        is("13 without any", new BargesByBreath().wakes(0), -1);
    }

    private static void loading() {
        BargesByBreath x = world("....", "0+9;1+0", "");
        for (int n = 0; n <= 9; n++) {
            is("14 10 and what it was", x.loads(0, n), 10 + (n == 0 ? 9 : n - 1));
            is("14 CARGO", x.barge(0, 2), n);
            is("14 it is so much", x.loads(0, n), -2);
        }
        is("14 the other one is as it was", x.barge(1, 2), 0);
        is("14 -2 is nothing to undo", x.count(9), 10);
        // fullWorld(): CARGO 2, 0, 1
        refused("14 it is so much", -2, y -> y.loads(0, 2));
        int[][] bad = {{0, -1}, {0, 10}, {0, LEAST}, {0, MOST}, {-1, 5}, {3, 5}, {LEAST, 5}, {MOST, 5}, {3, 10}};
        for (int[] b : bad) {
            refused("14 others: " + b[0] + ", " + b[1], -1, y -> y.loads(b[0], b[1]));
        }
        is("14 without any", new BargesByBreath().loads(0, 0), -1);
    }

    private static void turning() {
        BargesByBreath x = world("....", "3+0;0-0", "");
        is("15 THERE", x.hours(1), 2);
        is("15 down", x.turnsRound(0), 1);
        is("15 up", x.turnsRound(1), 0);
        is("15 not THERE", x.count(4), 0);
        is("15 HEADING", x.barge(0, 1) * 10 + x.barge(1, 1), 10);
        is("15 CELL", x.barge(0, 0) * 10 + x.barge(1, 0), 30);
        is("15 up again", x.turnsRound(0), 0);
        is("15 not THERE, though at the end of its HEADING", x.barge(0, 3), 0);
        for (int b : new int[] {-1, 3, LEAST, MOST}) {
            refused("15 none such: " + b, -1, y -> y.turnsRound(b));
        }
        is("15 without any", new BargesByBreath().turnsRound(0), -1);
    }

    // ---- 16: journey

    private static void journeySigns() {
        Maker maker = () -> world("....", "0+0;1+0", "90a");
        for (String start : new String[] {"", "h0", "c01", "w0", "l05", "t1", many("h0", 29)}) {
            canStand("16 an ACT", maker, start, "hcwlt", BargesByBreath::journey);
            for (char act : "hcwlt".toCharArray()) {
                canStand("16 a digit", maker, start + act, DIGITS, BargesByBreath::journey);
            }
        }
        canStand("16 a second digit", maker, "c0", DIGITS, BargesByBreath::journey);
        canStand("16 a second digit", maker, "l0", DIGITS, BargesByBreath::journey);
        canStand("16 no second digit", maker, "h1", "hcwlt", BargesByBreath::journey);
        canStand("16 a sixty-first sign", maker, many("h0", 30), "", BargesByBreath::journey);
        canStand("16 a sixty-first sign in an ACT", maker, many("h0", 28) + "l05h", "", BargesByBreath::journey);
        String[] early = {"h", "c", "c0", "w", "l", "l0", "t", "h1w", "w0c0"};
        for (String text : early) {
            refusedText("16 ends too early: " + text, text, -1 - text.length(), BargesByBreath::journey);
        }
        refusedText("16 nothing is done then", "h1w0t1l09x", -10, BargesByBreath::journey);
        refusedText("16 61 signs", many("w0", 30) + "h", -61, BargesByBreath::journey);
        refusedText("16 80 signs", many("w0", 40), -61, BargesByBreath::journey);
        refusedText("16 a fault ahead of the sixty-first", many("w0", 29) + "wwh1", -60, BargesByBreath::journey);
        BargesByBreath x = maker.make();
        tells("16 60 signs", x, say(x, many("w0", 29) + "h1").journey(), 30, 0, 1);
        is("16 60 signs that end too early", say(x, many("h1", 28) + "c01h").journey(), -61);
        tells("16 59 signs", x, say(x, many("h0", 28) + "l05").journey(), 29, 0, 1);
    }

    private static void journeyActs() {
        BargesByBreath x = world("........", "0+0;1+0;7-0", "90a;51s", "0");
        for (int n = 0; n <= 9; n++) {
            int before = x.count(3);
            tells("16 h" + n, x, say(x, "h" + n).journey(), 1, 0, before + n);
        }
        is("16 the text is empty", x.count(11), 0);
        tells("16 c and passenger, barge", x, say(x, "c01").journey(), 1, 0, 45);
        is("16 c", x.barge(1, 6), 3);
        tells("16 c the other one", x, say(x, "c10c00").journey(), 2, 0, 45);
        is("16 c", x.barge(0, 6), 3);
        tells("16 w", x, say(x, "w1").journey(), 1, 0, 45);
        is("16 w", x.count(5), 0b11);
        tells("16 l and barge, n", x, say(x, "l19l09l21").journey(), 3, 0, 45);
        is("16 l", x.barge(0, 2) * 100 + x.barge(1, 2) * 10 + x.barge(2, 2), 991);
        tells("16 t", x, say(x, "t2").journey(), 1, 0, 45);
        is("16 t", x.barge(2, 1), 0);
        tells("16 an empty one", x, say(x, "").journey(), 0, 0, 45);
    }

    private static void journeyStops() {
        // fullWorld(): passengers 0 .. 3, barges 0 .. 2, CARGO 2, 0, 1, HOUR 1
        String[] cant = {"c00", "c02", "c40", "c03", "w4", "w9", "l02", "l30", "t3", "t9"};
        for (String act : cant) {
            BargesByBreath x = say(fullWorld(), act + "h9w0");
            tells("16 can't be: " + act, x, x.journey(), 0, 1, 1);
            BargesByBreath twin = say(fullWorld(), "");
            x.fits();
            twin.fits();
            sameInAll("16 can't be, nothing is done: " + act, x, twin);
            BargesByBreath y = say(fullWorld(), "w0h2" + act + "h9w0");
            tells("16 those ahead are done: " + act, y, y.journey(), 2, 1, 3);
            is("16 as one", y.count(9), 4);
            BargesByBreath done = fullWorld();
            done.wakes(0);
            done.hours(2);
            done.fits();
            y.fits();
            say(done, "");
            is("16 as if one by one", done.count(9), 5);
            done.undo();
            done.undo();
            y.undo();
            sameInAll("16 undone as one: " + act, y, done);
        }
    }

    // ---- 17: undo

    private static void undoing() {
        refused("17 none", () -> {
            BargesByBreath x = fullWorld();
            x.again(1);
            return x;
        }, -1, BargesByBreath::undo);
        is("17 none of a new object", new BargesByBreath().undo(), -1);
        String[] acts = {"h1", "c01", "w0", "l05", "t1"};
        for (String act : acts) {
            for (int as = 0; as < 2; as++) {
                BargesByBreath x = beside();
                BargesByBreath twin = beside();
                long answer = as == 0 ? doAct(x, act) : say(x, act).journey();
                is("17 " + act + " is done", answer >= 0, true);
                is("17 can be undone: " + act, x.count(9), 1);
                is("17 how many are left: " + act, x.undo(), 0);
                x.fits();
                twin.fits();
                sameInAll("17 as ahead of it: " + act, x, twin);
            }
        }
        BargesByBreath x = beside();
        x.hours(1);
        x.sheet(2, 2, 1, 0);
        is("17 all of PASSENGERS", x.undo(), 0);
        is("17 BREATH as ahead of it, whatever a sheet told since", x.count(6), 9 + 5);
        BargesByBreath there = world("....", "2+0", "90a");
        is("17 THERE", there.hours(1), 1);
        there.turnsRound(0);
        is("17 undone", there.undo(), 1);
        is("17 it is THERE again", there.count(4), 1);
        is("17 undone", there.undo(), 0);
        is("17 it is not THERE again", there.count(4), 0);
    }

    private static BargesByBreath beside() {
        BargesByBreath x = world("..b.....", "1+2;2-0", "90a;51s", "b/2");
        return say(x, "");
    }

    private static long doAct(BargesByBreath x, String act) {
        int first = act.charAt(1) - '0';
        int second = act.length() > 2 ? act.charAt(2) - '0' : 0;
        switch (act.charAt(0)) {
            case 'h':
                return x.hours(first);
            case 'c':
                return x.changes(first, second);
            case 'w':
                return x.wakes(first);
            case 'l':
                return x.loads(first, second);
            default:
                return x.turnsRound(first);
        }
    }

    private static void undoKept() {
        for (int done = 11; done <= 27; done++) {
            BargesByBreath x = world("....", "0+0", "");
            for (int i = 1; i <= done; i++) {
                x.loads(0, i % 10);
                is("17 of 12 that are kept", x.count(9), Math.min(12, i));
            }
            for (int i = 1; i <= Math.min(12, done); i++) {
                is("17 left of " + done, x.undo(), Math.min(12, done) - i);
                is("17 the latest ones of " + done, x.barge(0, 2), (done - i) % 10);
            }
            is("17 none is left", x.undo(), -1);
            is("17 nothing changes", x.barge(0, 2), Math.max(0, done - 12) % 10);
        }
        BargesByBreath x = world("....", "0+0;1+0", "90a", "0");
        x.hours(0);
        x.hours(-1);
        x.hours(61);
        x.changes(0, 0);
        x.changes(0, 2);
        x.wakes(1);
        x.loads(0, 0);
        x.loads(0, 10);
        x.turnsRound(2);
        say(x, "").journey();
        say(x, "w1").journey();
        say(x, "x").journey();
        is("17 such as were done: none of these", x.count(9), 0);
        x.hours(1);
        is("17 hours() of 1", x.count(9), 1);
        say(x, "w0w1").journey();
        is("17 journey() of which one ACT was done", x.count(9), 2);
        // twelve full, then some that are not done: none is lost
        for (int i = 0; i < 10; i++) {
            x.wakes(0);
        }
        x.hours(0);
        x.wakes(1);
        say(x, "w1").journey();
        is("17 twelve", x.count(9), 12);
        for (int i = 11; i >= 0; i--) {
            is("17 none of the twelve is lost", x.undo(), i);
        }
        is("17 HOUR", x.count(3), 0);
    }

    private static void undoForgotten() {
        BargesByBreath x = fullWorld();
        is("17 canal() forgets them", say(x, "....").canal() == 4 && x.count(9) == 0, true);
        BargesByBreath y = fullWorld();
        is("17 barges() forgets them", say(y, "7+0").barges() == 1 && y.undo() == -1, true);
        BargesByBreath z = fullWorld();
        is("17 passengers() forgets them", say(z, "10a").passengers() == 1 && z.undo() == -1, true);
        BargesByBreath a = fullWorld();
        is("17 again() forgets them", a.again(0) && a.undo() == -1, true);
        BargesByBreath stay = fullWorld();
        say(stay, "").barges();
        say(stay, "").passengers();
        say(stay, "").canal();
        say(stay, "").journey();
        is("17 those that read an empty text do not", stay.count(9), 3);
        say(stay, "x").canal();
        say(stay, "x").barges();
        say(stay, "x").passengers();
        stay.again(2);
        stay.again(-1);
        is("17 nor those that are refused", stay.count(9), 3);
        say(stay, "b").rule();
        stay.sheet(3, 0, 0, 0);
        stay.keep(0);
        stay.forget();
        is("17 nor others", stay.count(9), 3);
        is("17 they can be undone", stay.undo() == 2 && stay.undo() == 1 && stay.undo() == 0, true);
    }
}
