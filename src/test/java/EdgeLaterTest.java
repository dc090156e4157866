/** The boundary cases of promises 18 to 34. */
public final class EdgeLaterTest extends Checks {
    private static final int LEAST = Integer.MIN_VALUE;
    private static final int MOST = Integer.MAX_VALUE;
    /** One CELL in the third HOUR from HOUR 0 on and in each twelfth behind it, nine till the 99th. */
    private static final String TILL_99 = "n=2";
    /** The ninth CELL in the 100th HOUR. */
    private static final String TILL_100 = "n=3";
    /** One CELL in the sixth, eighteenth and thirtieth HOUR. */
    private static final String TILL_30 = "n=5";

    public static void main(String[] args) {
        later();
        arrives();
        stops();
        stopsBack();
        nearest();
        breath();
        meets();
        tires();
        near();
        helps();
        hastens();
        rouses();
        evens();
        seats();
        pairs();
        holds();
        locks();
        onions();
        onionCargo();
        finish();
    }

    /** n of 0 .. 99 is taken, all others are refused, and a question changes nothing. */
    private static void ofHours(String what, OfHours call) {
        for (int n : new int[] {-1, 100, LEAST, MOST}) {
            refused(what + " n " + n, -1, x -> call.answer(x, n));
        }
        for (int n : new int[] {0, 1, 99}) {
            is(what + " n " + n, call.answer(fullWorld(), n) >= 0, true);
            changesNothing(what + " n " + n, x -> call.answer(x, n));
        }
    }

    /** n of 1 .. 30 is taken. */
    private static void ofSearches(String what, OfHours call) {
        for (int n : new int[] {-1, 0, 31, LEAST, MOST}) {
            refused(what + " n " + n, -1, x -> call.answer(x, n));
        }
        for (int n : new int[] {1, 2, 30}) {
            is(what + " n " + n, call.answer(fullWorld(), n) != -1, true);
            changesNothing(what + " n " + n, x -> call.answer(x, n));
        }
    }

    /** Barges 0 .. 2 are there, others not. */
    private static void ofBarges(String what, OfHours call) {
        for (int b : new int[] {-1, 3, 4, LEAST, MOST}) {
            refused(what + " no barge " + b, -1, x -> call.answer(x, b));
        }
        for (int b = 0; b <= 2; b++) {
            int barge = b;
            is(what + " barge " + b, call.answer(fullWorld(), b) != -1, true);
            changesNothing(what + " barge " + b, x -> call.answer(x, barge));
        }
        is(what + " without barges", call.answer(new BargesByBreath(), 0), -1);
    }

    private interface OfHours {
        long answer(BargesByBreath x, int n);
    }

    // ---- 18 to 25

    private static void later() {
        ofHours("18", (x, n) -> x.later(0, n));
        ofBarges("18", (x, b) -> x.later(b, 5));
        refused("18 neither", -1, x -> x.later(3, 100));
        BargesByBreath x = world(many(".", 12), "0+0;11-0", "10a", TILL_99);
        tells("18 now", x, x.later(0, 0), 0, 0, 11);
        tells("18 in two HOURS", x, x.later(0, 2), 0, 0, 11);
        tells("18 in three HOURS", x, x.later(0, 3), 1, 1, 11);
        tells("18 in 98", x, x.later(0, 98), 8, 8, 11);
        tells("18 in 99", x, x.later(0, 99), 9, 9, 11);
        tells("18 of another one", x, x.later(1, 99), 11, 9, 11);
        BargesByBreath one = world("....", "2+0", "");
        tells("18 one barge", one, one.later(0, 99), 2, 2);
        BargesByBreath four = world("....", "3+0;0+0;2+0;1+0", "");
        tells("18 four barges", four, four.later(2, 99), 2, 3, 0, 2, 1);
    }

    private static void arrives() {
        ofBarges("19", BargesByBreath::arrives);
        BargesByBreath x = world(many(".", 10), "0+0", "10a", TILL_99);
        tells("19 in 99", x, x.arrives(0), 99, 1);
        BargesByBreath late = world(many(".", 10), "0+0", "10a", TILL_100);
        is("19 in none of these: in 100", late.arrives(0), -2);
        late.hours(1);
        tells("19 an HOUR later in 99", late, late.arrives(0), 99, 1);
        BargesByBreath at = world("....", "3+0", "30a;40s");
        tells("19 at its end in 1", at, at.arrives(0), 1, 2);
        at.hours(1);
        tells("19 it is", at, at.arrives(0), 0, 2);
        BargesByBreath none = world("....", "0+0;3+0", "");
        is("19 never", none.arrives(0), -2);
        tells("19 HOLD of nobody", none, none.arrives(1), 1, 0);
        BargesByBreath two = world("....", "0+0", "90a", "b");
        tells("19 HOLD then", two, two.arrives(0), 1, 1);
    }

    private static void stops() {
        ofBarges("20", BargesByBreath::stops);
        BargesByBreath x = world(many(".", 30), "0+0;29+0", "10a");
        tells("20 the latest HOUR that can be", x, x.stops(0), 29, 28);
        is("20 at its end", x.stops(1), -2);
        x.hours(1);
        tells("20 an HOUR later", x, x.stops(0), 28, 28);
        is("20 it is THERE", x.stops(1), -2);
        x.hours(27);
        tells("20 in 1", x, x.stops(0), 1, 28);
        BargesByBreath down = world(many(".", 30), "29-0;0-0", "10a");
        tells("20 down", down, down.stops(0), 29, 1);
        BargesByBreath through = world(many(".", 30), "0+0", "10a");
        is("20 in none: it is THERE first", through.stops(0), -2);
        BargesByBreath lock = world("..2...", "0+0", "10a");
        tells("20 at a LOCK", lock, lock.stops(0), 2, 1);
        BargesByBreath waits = world(many(".", 10), "0+0", "10a", "n=0");
        tells("20 it goes once", waits, waits.stops(0), 2, 1);
        BargesByBreath still = world("....", "2-0", "");
        tells("20 it never goes", still, still.stops(0), 1, 2);
        BargesByBreath other = world("....", "0+0", "");
        tells("20 it is at the other end", other, other.stops(0), 1, 0);
        BargesByBreath turned = world("....", "3+0", "");
        turned.hours(1);
        is("20 it is THERE", turned.stops(0), -2);
        turned.turnsRound(0);
        tells("20 it has turned", turned, turned.stops(0), 1, 3);
    }

    private static void stopsBack() {
        // barge 0 goes 3, then it is blown back 3
        BargesByBreath same = world(many(".", 12), "2+0;6-0", "90a;91a;11a", "b");
        tells("20 its CELL is the same as ahead of it", same, same.stops(0), 1, 2);
        BargesByBreath one = world(many(".", 12), "5+0;6-0", "11a", "b");
        tells("20 one CELL farther back", one, one.stops(0), 1, 4);
        BargesByBreath three = world(many(".", 12), "5+0;6-0", "91a", "b");
        tells("20 three CELLS farther back", three, three.stops(0), 1, 2);
        BargesByBreath up = world(many(".", 12), "6-0;5+0", "91a", "b");
        tells("20 farther back, down", up, up.stops(0), 1, 9);
        // barge 0 goes 3 and is blown back 2: it has gone ahead
        BargesByBreath ahead = world(many(".", 12), "2+0;7-0", "90a;91a;11a", "b");
        is("20 goes and is blown", ahead.later(0, 1), 3);
        is("20 it has gone ahead, though it was blown", ahead.stops(0) != 1, true);
    }

    private static void nearest() {
        ofHours("21", BargesByBreath::nearest);
        is("21 without barges", new BargesByBreath().nearest(0), -2);
        is("21 without barges, another n", new BargesByBreath().nearest(100), -1);
        refused("21 fewer than two", () -> say(oneBarge(), ""), -2, x -> x.nearest(99));
        BargesByBreath x = world(many(".", 30), "0+0;29-0", "");
        tells("21 two", x, x.nearest(0), 29, 0, 1);
        BargesByBreath y = world(many(".", 12), "0+0;11-0", "10a", TILL_99);
        tells("21 in 98", y, y.nearest(98), 3, 0, 1);
        tells("21 in 99", y, y.nearest(99), 2, 0, 1);
        BargesByBreath like = world(many(".", 12), "0+0;6+0;2+0;4+0", "");
        tells("21 of like ones the least row", like, like.nearest(0), 2, 0, 2);
        BargesByBreath last = world(many(".", 12), "0+0;10+0;6+0;5+0", "");
        tells("21 the last two, the lesser first", last, last.nearest(9), 1, 2, 3);
        BargesByBreath mid = world(many(".", 12), "0+0;11+0;6+0;9+0", "");
        tells("21 of 1 and 3", mid, mid.nearest(9), 2, 1, 3);
    }

    private static BargesByBreath oneBarge() {
        BargesByBreath x = world("....", "1+0", "90a;80s");
        x.hours(1);
        x.keep(0);
        x.later(0, 4);
        return x;
    }

    private static void breath() {
        ofHours("22", BargesByBreath::breath);
        BargesByBreath x = world("....", "0+9", "90a;10s", "(n=2)*3");
        tells("22 now", x, x.breath(0), 10, 9, 1);
        tells("22 in 98", x, x.breath(98), 10, 9, 1);
        tells("22 in 99", x, x.breath(99), 8, 7, 1);
        tells("22 nobody", new BargesByBreath(), new BargesByBreath().breath(99), 0);
        BargesByBreath nine = world("....", "0+9", "10s;20s;30s;40s;50s;60s;70s;80s;90s");
        tells("22 nine", nine, nine.breath(0), 45, 1, 2, 3, 4, 5, 6, 7, 8, 9);
        nine.sheet(3, 0, 0, 0);
        tells("22 nine in 5", nine, nine.breath(5), 1 + 2 + 3 + 4 + 25, 1, 2, 3, 4, 5, 5, 5, 5, 5);
        tells("22 nine in 99", nine, nine.breath(99), 45, 1, 2, 3, 4, 5, 6, 7, 8, 9);
    }

    private static void meets() {
        ofBarges("23 the first", (x, b) -> x.meets(b, b == 0 ? 1 : 0));
        ofBarges("23 the other", (x, b) -> x.meets(b == 2 ? 1 : 2, b));
        for (int b = 0; b <= 2; b++) {
            int barge = b;
            refused("23 like ones: " + b, -1, x -> x.meets(barge, barge));
        }
        refused("23 neither", -1, x -> x.meets(3, 3));
        BargesByBreath x = world(many(".", 12), "0+0;10-0;11-0", "10a", TILL_99);
        tells("23 in 99", x, x.meets(0, 1), 99, 9, 10);
        tells("23 in 99, the first one's first", x, x.meets(1, 0), 99, 10, 9);
        is("23 in none of these", x.meets(0, 2), -2);
        tells("23 now", x, x.meets(1, 2), 0, 10, 11);
        tells("23 now, the first one's first", x, x.meets(2, 1), 0, 11, 10);
        BargesByBreath late = world(many(".", 12), "0+0;10-0", "10a", TILL_100);
        is("23 in none of these: in 100", late.meets(0, 1), -2);
        BargesByBreath first = world("......", "0+0;1+0", "91a", "1");
        tells("23 for the first time", first, first.meets(0, 1), 0, 0, 1);
        first.hours(1);
        is("23 they part", first.meets(0, 1), -2);
    }

    private static void tires() {
        for (int p : new int[] {-1, 4, LEAST, MOST}) {
            refused("24 no passenger " + p, -1, x -> x.tires(p));
        }
        for (int p = 0; p < 4; p++) {
            int passenger = p;
            is("24 passenger " + p, fullWorld().tires(p) != -1, true);
            changesNothing("24 passenger " + p, x -> x.tires(passenger));
        }
        is("24 nobody", new BargesByBreath().tires(0), -1);
        String rule = "(l=1)*(1-m)+(l=2)*(";
        // barge 1 comes to CELL 1 in the 99th HOUR, and m of barge 0 is 1 then
        BargesByBreath x = world(many(".", 12), "0+9;10-0", "10a;21a", rule + TILL_99 + ")");
        tells("24 in 99", x, x.tires(0), 99, 1);
        BargesByBreath late = world(many(".", 12), "0+9;10-0", "10a;21a", rule + TILL_100 + ")");
        is("24 in none of these: in 100", late.tires(0), -2);
        tells("24 now", late, late.tires(1), 0, 2);
        BargesByBreath one = world("....", "0+0", "90a;90s", "9*(n<1)");
        tells("24 in 1", one, one.tires(0), 1, 1);
        tells("24 a sleeper now", one, one.tires(1), 0, 9);
        one.sheet(3, 0, 0, 0);
        tells("24 without BREATH now", one, one.tires(0), 0, 0);
    }

    private static void near() {
        ofHours("25", (x, n) -> x.near(0, n));
        for (int cell : new int[] {-1, 10, LEAST, MOST}) {
            refused("25 no CELL " + cell, -1, x -> x.near(cell, 0));
        }
        for (int cell = 0; cell < 10; cell++) {
            is("25 CELL " + cell, fullWorld().near(cell, 0) >= 0, true);
        }
        is("25 there are no barges", new BargesByBreath().near(0, 0), -2);
        is("25 there are no barges, in 99", new BargesByBreath().near(3, 99), -2);
        is("25 no barges, no CELL", new BargesByBreath().near(4, 0), -1);
        is("25 no barges, another n", new BargesByBreath().near(0, 100), -1);
        BargesByBreath x = world(many(".", 30), "0+0;29-0", "");
        tells("25 on it", x, x.near(29, 99), 1, 0);
        tells("25 nearer", x, x.near(14, 0), 0, 14);
        tells("25 nearer", x, x.near(15, 0), 1, 14);
        BargesByBreath one = world(many(".", 30), "0+0", "");
        tells("25 as far as can be", one, one.near(29, 0), 0, 29);
        BargesByBreath equal = world(many(".", 30), "9+0;7+0;3+0;5+0", "");
        tells("25 of equal ones the first", equal, equal.near(6, 0), 1, 1);
        tells("25 of equal ones the first", equal, equal.near(4, 0), 2, 1);
        tells("25 of equal ones the first", equal, equal.near(8, 0), 0, 1);
        BargesByBreath y = world(many(".", 12), "11-0;0+0", "11a", TILL_99);
        tells("25 in 98", y, y.near(10, 98), 0, 1);
        tells("25 in 99", y, y.near(9, 99), 1, 0);
        tells("25 in 99", y, y.near(10, 99), 0, 1);
    }

    // ---- 26 to 31

    private static void helps() {
        ofBarges("26", BargesByBreath::helps);
        refused("26 nobody is aboard another one", EdgeLaterTest::oneBarge, -2, x -> x.helps(0));
        is("26 nobody at all", world("....", "0+0", "").helps(0), -2);
        is("26 all are aboard it", world("....", "0+0;1+0", lines("91a", 9)).helps(1), -2);
        BargesByBreath x = world("....", "0+0;1+0", "31a;51a;41a;51a;20a", "b");
        tells("26 the most, the first of equal ones", x, x.helps(0), 1, 7, 2);
        tells("26 the only one", x, x.helps(1), 4, 19, 17);
        BargesByBreath zero = world("....", "0+9;1+0", "91s;81a;91a", "b");
        tells("26 0 at least: the first of equal ones", zero, zero.helps(0), 0, 0, 0);
        BargesByBreath sleeper = world("....", "0+0;1+0", "30a;91s", "b");
        tells("26 a sleeper is ballast", sleeper, sleeper.helps(0), 1, 2, 3);
        BargesByBreath ninth = world("....", "0+0;1+0", lines("91s", 8) + ";91a", "b");
        tells("26 the ninth", ninth, ninth.helps(0), 8, 9, 0);
        BargesByBreath crew = world("....", "0+3;3-0", "90a;91a;41a", "p+c");
        tells("26 as it would be aboard", crew, crew.helps(0), 1, 5 + 5 - 3, 4 - 3);
    }

    private static void hastens() {
        ofBarges("27", BargesByBreath::hastens);
        String canal = many(".", 11);
        BargesByBreath x = world(canal, "9-0;10+0", "11a;11a", TILL_99);
        tells("27 in 99, the first of equal ones", x, x.hastens(0), 0, 99);
        BargesByBreath late = world(canal, "9-0;10+0", "11a;11a", TILL_100);
        refused("27 by none in 99", () -> say(world(canal, "9-0;10+0", "11a;11a", TILL_100), ""), -2, y -> y.hastens(0));
        late.hours(1);
        tells("27 an HOUR later", late, late.hastens(0), 0, 99);
        BargesByBreath soon = world("....", "2+0;0+0", "11a;91a");
        tells("27 in 1", soon, soon.hastens(0), 0, 1);
        BargesByBreath second = world("......", "1+0;0+0", "11a;91a;91a", "b");
        tells("27 the soonest, then the first", second, second.hastens(0), 1, 2);
        BargesByBreath at = world("....", "3+0;0+0", "11s");
        tells("27 at its end, by anybody", at, at.hastens(0), 0, 1);
        at.hours(1);
        is("27 it is THERE", at.hastens(0), -2);
        is("27 nobody is aboard another one", world("....", "0+0;3-0", "90a").hastens(0), -2);
        is("27 those aboard it are not meant", world("....", "1+0;0+0", "90a;90a").hastens(0), -2);
        is("27 those aboard it are not meant", world("....", "0+0;1+0", "91a;91a").hastens(1), -2);
        is("27 by a sleeper in none", world("....", "0+0;3-0", "91s").hastens(0), -2);
    }

    private static void rouses() {
        ofSearches("28", BargesByBreath::rouses);
        BargesByBreath x = world("....", "0+0", "10s", TILL_30);
        tells("28 in 29", x, x.rouses(29), 0, 0, 0);
        tells("28 in 30", x, x.rouses(30), 0, 1, 0);
        BargesByBreath one = world("....", "2+0", "10a;10s;90s;90s");
        tells("28 in 1, the first of equal ones", one, one.rouses(1), 2, 1, 0);
        BargesByBreath without = world("......", "0-0;4+0", "10s;11s;91s");
        tells("28 how many if nobody wakes", without, without.rouses(1), 2, 2, 1);
        BargesByBreath like = world("......", "0-0;4+9", "10a;11s;91s");
        tells("28 of equal ones the first", like, like.rouses(1), 1, 1, 1);
        Maker awake = () -> say(world("....", "0+0", "10a;20a"), "");
        refused("28 all are AWAKE", awake, -2, y -> y.rouses(30));
        is("28 all are AWAKE, another n", awake.make().rouses(31), -1);
        is("28 nobody", new BargesByBreath().rouses(1), -2);
        is("28 nobody, another n", new BargesByBreath().rouses(0), -1);
    }

    private static void evens() {
        changesNothing("29", BargesByBreath::evens);
        BargesByBreath nobody = new BargesByBreath();
        tells("29 nobody", nobody, nobody.evens(), 0, 0, 0);
        BargesByBreath asleep = world("....", "0+0", "90s;80s");
        tells("29 nobody is AWAKE", asleep, asleep.evens(), 0, 0, 0);
        BargesByBreath one = world("....", "0+0", "90s;80a");
        tells("29 one alone: the empty part is the least", one, one.evens(), 8, 0, 0);
        one.sheet(3, 0, 0, 0);
        tells("29 one without BREATH", one, one.evens(), 0, 0, 0);
        BargesByBreath two = world("....", "0+0;1+0", "50a;90s;31a");
        tells("29 two: the first is the least", two, two.evens(), 2, 0b001, 5);
        BargesByBreath sleeper = world("....", "0+0", "40s;40a;40a");
        tells("29 a sleeper is in neither part", sleeper, sleeper.evens(), 0, 0b010, 4);
        BargesByBreath nine = world("....", "0+0", "90a;10a;10a;10a;10a;10a;10a;10a;20a");
        tells("29 nine", nine, nine.evens(), 0, 0b000000001, 9);
        BargesByBreath last = world("....", "0+0", "10a;20a;30a;90a", "0");
        tells("29 the three are less than the fourth", last, last.evens(), 3, 0b0111, 6);
        BargesByBreath breath = world("....", "0+0", "90a;90a;90a");
        breath.sheet(2, 3, 1, 1);
        tells("29 BREATH, not LUNGS", breath, breath.evens(), 0, 0b011, 3);
    }

    private static void seats() {
        ofSearches("30", BargesByBreath::seats);
        BargesByBreath x = world(".....", "1+0;0+0", "11a;11a", TILL_30);
        tells("30 in 29: as good with nobody", x, x.seats(29), 0);
        tells("30 in 30: the least row", x, x.seats(30), 1, 0, 0);
        BargesByBreath nobody = new BargesByBreath();
        tells("30 nobody", nobody, nobody.seats(30), 0);
        BargesByBreath alone = world("....", "2+0", "90a");
        tells("30 one barge alone", alone, alone.seats(1), 1);
        BargesByBreath far = world("........", "1-0;6+0;3+0", "92s;92a;92a");
        tells("30 wherever that is; of as good ones the least row", far, far.seats(1), 1, 1, 0);
        BargesByBreath second = world("........", "1-9;6+0;3+0", "92s;92a;92a");
        tells("30 the other barge", second, second.seats(1), 1, 1, 1);
        BargesByBreath full = world("........", "0-0;7+0", "90a;91a");
        tells("30 all are THERE with nobody", full, full.seats(1), 2);
        BargesByBreath nowhere = world("......", "1-0;4+0", "10s;10a;11a", "b");
        tells("30 a sleeper can't leave for nowhere", nowhere, nowhere.seats(1), 1);
        BargesByBreath two = world("......", "1-0;4+0", "20a;10s;10a;11a;20a", "l=1");
        tells("31 a sleeper can't leave for nowhere", two, two.pairs(1), 1);
        BargesByBreath ballast = world("....", "0+0;2+0", "90a;91s;11a", "b");
        tells("30 a sleeper leaves", ballast, ballast.seats(1), 1, 0, 1);
        ballast.wakes(0);
        tells("30 a sleeper leaves", ballast, ballast.seats(1), 1, 1, 0);
    }

    private static void pairs() {
        ofSearches("31", BargesByBreath::pairs);
        BargesByBreath x = world(".....", "1+1;0+0", "11a;11a;11s", TILL_30);
        tells("31 in 29: nobody", x, x.pairs(29), 0);
        tells("31 in 30: two, the lesser first", x, x.pairs(30), 1, 0, 0, 1, 0);
        tells("31 one is not enough", x, x.seats(30), 0);
        BargesByBreath one = world(".....", "1+0;0+0", "11a;11a", TILL_30);
        tells("31 the fewest", one, one.pairs(30), 1, 0, 0);
        tells("31 the fewest: nobody", one, one.pairs(29), 0);
        BargesByBreath nobody = new BargesByBreath();
        tells("31 nobody at all", nobody, nobody.pairs(30), 0);
        BargesByBreath both = world("......", "1-0;4+0;2+0", "92s;92a;92a;92a");
        tells("31 the least row", both, both.pairs(1), 2, 1, 0, 2, 1);
        BargesByBreath last = world("......", "1-0;4+3;2+0", "12a;92s;12a;92a;92a");
        tells("31 the least row", last, last.pairs(1), 2, 0, 0, 3, 1);
        BargesByBreath alone = world("......", "1-0;4+0;2+0", "92a");
        tells("31 one passenger is not two", alone, alone.pairs(1), 1, 0, 0);
        BargesByBreath most = world("....", "3+0;0-0", lines("90a", 9));
        tells("31 all are THERE with nobody", most, most.pairs(1), 2);
        BargesByBreath ninth = world("......", "3+0;4+9;2+0", "92s;92s;92s;92s;92s;92s;92s;90a;90a", "b");
        tells("31 the eighth and the ninth", ninth, ninth.pairs(1), 1, 7, 1, 8, 1);
    }

    // ---- 32 to 34

    private static void holds() {
        ofBarges("32", (x, b) -> x.holds(b, 1));
        for (int v : new int[] {-1, 0, 100, LEAST, MOST}) {
            refused("32 v " + v, -1, x -> x.holds(0, v));
        }
        changesNothing("32", x -> x.holds(0, 3));
        refused("32 neither", -1, x -> x.holds(3, 0));
        BargesByBreath x = world("....", "0+0;1+0", "50a;30a;90s;40a;81a");
        tells("32 1", x, x.holds(0, 1), 1, 0b00001);
        tells("32 5", x, x.holds(0, 5), 1, 0b00001);
        tells("32 6", x, x.holds(0, 6), 2, 0b00011);
        tells("32 8", x, x.holds(0, 8), 2, 0b00011);
        tells("32 9", x, x.holds(0, 9), 2, 0b01001);
        tells("32 10", x, x.holds(0, 10), 3, 0b01011);
        tells("32 12", x, x.holds(0, 12), 3, 0b01011);
        refused("32 all have less", () -> say(world("....", "0+0", "50a;30a;90s"), ""), -2, y -> y.holds(0, 9));
        is("32 99", x.holds(0, 99), -2);
        x.sheet(2, 5, 1, 0);
        tells("32 BREATH, not LUNGS", x, x.holds(0, 3), 3, 0b01011);
        is("32 BREATH, not LUNGS", x.holds(0, 4), -2);
        BargesByBreath nine = world("....", "0+0", lines("90a", 9));
        tells("32 81", nine, nine.holds(0, 81), 9, 0b111111111);
        is("32 82", nine.holds(0, 82), -2);
        tells("32 73", nine, nine.holds(0, 73), 9, 0b111111111);
        tells("32 72", nine, nine.holds(0, 72), 8, 0b011111111);
        BargesByBreath none = world("....", "0+0", "");
        is("32 nobody", none.holds(0, 1), -2);
    }

    private static void locks() {
        ofBarges("33", BargesByBreath::locks);
        for (int lock = 1; lock <= 9; lock++) {
            BargesByBreath x = world("..." + lock, "0+0", lock + "0a");
            tells("33 of as much as HOLD " + lock, x, x.locks(0), 0, -1, lock);
            x.sheet(2, 1, lock - 1, 0);
            tells("33 of more than HOLD", x, x.locks(0), 1, 3, lock);
        }
        BargesByBreath x = world("9.3b5.41", "3+0", "40a;90s");
        tells("33 ahead, up: the first of more", x, x.locks(0), 1, 4, 5);
        x.turnsRound(0);
        tells("33 ahead, down: the first of more", x, x.locks(0), 1, 0, 9);
        x.sheet(3, 0, 0, 0);
        tells("33 ahead, down: both", x, x.locks(0), 2, 2, 9);
        x.turnsRound(0);
        tells("33 ahead, up: all", x, x.locks(0), 3, 4, 5);
        BargesByBreath end = world("111.", "3+0", "");
        tells("33 at its end", end, end.locks(0), 0, -1, 0);
        BargesByBreath last = world(many("9", 28) + "..", "29+0;28-0", "");
        tells("33 at the end of 30 CELLS", last, last.locks(0), 0, -1, 0);
        tells("33 28 LOCKS down", last, last.locks(1), 28, 27, 9);
        BargesByBreath own = world(".1..", "0+0", "10a");
        own.hours(1);
        is("33 on a LOCK", own.barge(0, 0), 1);
        tells("33 its own CELL is not ahead", own, own.locks(0), 0, -1, 0);
        BargesByBreath most = world("." + many("9", 29), "0+0", lines("90s", 9));
        tells("33 29 LOCKS", most, most.locks(0), 29, 1, 9);
    }

    private static void onions() {
        ofBarges("34", (x, b) -> x.onion(b, 1));
        for (int k : new int[] {-1, 0, 10, LEAST, MOST}) {
            refused("34 k " + k, -1, x -> x.onion(0, k));
        }
        for (int k = 1; k <= 9; k++) {
            int more = k;
            is("34 k " + k, fullWorld().onion(0, k) != -1, true);
            changesNothing("34 k " + k, x -> x.onion(0, more));
        }
        refused("34 neither", -1, x -> x.onion(3, 10));
        String canal = many(".", 10);
        String crew = lines("90a", 8) + ";20a";
        // eight and one blow it 3 CELLS an HOUR without CARGO, or with it; else one alone does, each twelfth HOUR
        BargesByBreath later = world(canal, "0+0", crew, "(c=0)*9+(c>0)*(l=2)*2*(" + TILL_99 + ")");
        tells("34 without it in 3", later, later.arrives(0), 3, 9);
        is("34 with it in 99", later.onion(0, 1), 100 + 99 - 3);
        BargesByBreath never = world(canal, "0+0", crew, "(c=0)*9+(c>0)*(l=2)*2*(" + TILL_100 + ")");
        is("34 with it in 100", never.onion(0, 1), -2);
        BargesByBreath earlier = world(canal, "0+0", crew, "(c>0)*9+(c=0)*(l=2)*(" + TILL_99 + ")");
        is("34 without it in 99", earlier.arrives(0), 99);
        is("34 with it in 3", earlier.onion(0, 1), 100 + 3 - 99);
        BargesByBreath late = world(canal, "0+0", crew, "(c>0)*9+(c=0)*(l=2)*(" + TILL_100 + ")");
        is("34 without it in 100", late.onion(0, 1), -2);
        BargesByBreath neither = world("....", "0+0", "");
        is("34 neither with nor without", neither.onion(0, 1), -2);
        BargesByBreath there = world("....", "3+0", "");
        is("34 at its end", there.onion(0, 9), 100);
        there.hours(1);
        is("34 it is THERE", there.onion(0, 1), 100);
    }

    private static void onionCargo() {
        // with CARGO of 9 it goes, with less it does not, with more there would be no such rule
        for (int cargo = 0; cargo <= 9; cargo++) {
            BargesByBreath x = world("....", "0+" + cargo, lines("90a", 3), "(c=9)*9+(c<9)*4+(c>9)*0");
            for (int k = 1; k <= 9; k++) {
                int with = Math.min(9, cargo + k);
                BargesByBreath y = world("....", "0+" + with, lines("90a", 3), "(c=9)*9+(c<9)*4+(c>9)*0");
                int due = y.arrives(0) < 0 || x.arrives(0) < 0 ? -2 : 100 + y.arrives(0) - x.arrives(0);
                is("34 " + cargo + " and " + k + " more CARGO, 9 at most", x.onion(0, k), due);
            }
            is("34 CARGO is as it was", x.barge(0, 2), cargo);
        }
    }
}
