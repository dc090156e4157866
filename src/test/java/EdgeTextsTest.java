/** The boundary cases of promises 1 to 7, and of the Terms that they take over. */
public final class EdgeTextsTest extends Checks {
    public static void main(String[] args) {
        newObject();
        signs();
        ends();
        canalSigns();
        canalLengths();
        canalAnew();
        bargeSigns();
        bargeCells();
        bargeEnds();
        bargeRoom();
        bargesCome();
        passengerSigns();
        passengerEnds();
        passengerRoom();
        passengersCome();
        ruleSigns();
        ruleEnds();
        ruleLengths();
        ruleReckoning();
        ruleLetters();
        rulePuffs();
        rulesCome();
        finish();
    }

    // ---- 1: a new object

    private static void newObject() {
        BargesByBreath x = new BargesByBreath();
        is("1 four CELLS", x.count(0), 4);
        for (int what = 1; what <= 11; what++) {
            is("1 nothing yet: count " + what, x.count(what), 0);
        }
        isNone("1 no barges", () -> x.barge(0, 0));
        isNone("1 no passengers", () -> x.passenger(0, 0));
        isNone("1 no ROW", () -> x.row(0));
        is("1 nothing to undo", x.undo(), -1);
        is("1 nothing kept under 0", x.again(0), false);
        is("1 nothing kept under 1", x.again(1), false);
        is("1 no text", x.end(1), false);
        is("1 a CELL 4 is not there", say(x, "4+0").barges(), -1);
        is("1 all four are no LOCKS", say(x, "0+0;1+0;2+0;3+0").barges(), 4);
        is("1 no passengers yet", say(x, "90a;91a;92a;93a").passengers(), 4);
        x.sheet(3, 0, 0, 0);
        is("1 all four are no BENDS", x.breath(1), 4);
        is("1 a LOCK is nowhere", x.locks(0), 0);
        rowIs("1 a LOCK is nowhere", x, -1, 0);
        BargesByBreath other = new BargesByBreath();
        is("1 another object is new", other.count(1), 0);
        is("1 HOUR is 0", other.count(3), 0);
        for (int lungs = 1; lungs <= 9; lungs++) {
            BargesByBreath y = world("....", "0+0", lungs + "0a");
            is("1 at first THE RULE is none: (b+1)/2", y.passenger(0, 4), (lungs + 1) / 2);
        }
    }

    // ---- 2, 3: sign, end

    private static void signs() {
        BargesByBreath x = new BargesByBreath();
        for (int many = 4; many <= 80; many += 4) {
            is("2 how many it has", x.sign(0x2e2e2e2e), many);
        }
        is("2 there would be 84", x.sign(0x2e2e2e2e), -1);
        int[] kept = {80, 79, 78, 77, 76};
        for (int n : kept) {
            is("3 the first " + n, x.end(n), true);
            is("2 more than 80", n > 76 ? x.sign(0) : -1, -1);
            is("2 refused: the text has so many", x.count(11), n);
        }
        is("2 80 are not more than 80", x.sign(0), 80);
        Maker full = () -> say(fullWorld(), many(".", 77));
        refused("2 there would be 81", full, -1, y -> y.sign(0x2e2e2e2e));
        BargesByBreath y = new BargesByBreath();
        is("2 the highest byte first", y.sign('b' << 24 | '1' << 16 | '.' << 8 | '9'), 4);
        is("2 behind THE TEXT", y.sign('.' << 24 | '.' << 16 | '.' << 8 | '2'), 8);
        is("2 the eight signs", y.canal(), 8);
        is("2 a bend, then a lock, then none", say(y, "0+0;2-0").barges(), 2);
        tells("2 locks up", y, y.locks(0), 3, 1, 9);
        tells("2 locks down", y, y.locks(1), 1, 1, 1);
        is("2 someone", say(y, "90a").passengers(), 1);
        y.sheet(3, 0, 0, 0);
        is("2 the first is a bend", y.breath(1), 2);
        int[] odd = {0, -1, Integer.MIN_VALUE, Integer.MAX_VALUE, 0x80ff007f};
        for (int v : odd) {
            BargesByBreath z = new BargesByBreath();
            is("2 any v has four signs", z.sign(v), 4);
            is("2 which can't stand", z.canal(), -1);
        }
    }

    private static void ends() {
        BargesByBreath x = new BargesByBreath();
        is("3 0 of 0", x.end(0), true);
        is("3 1 of 0", x.end(1), false);
        is("3 -1 of 0", x.end(-1), false);
        x.sign('1' << 24 | '2' << 16 | '3' << 8 | '4');
        is("3 4 of 4", x.end(4), true);
        is("3 5 of 4", x.end(5), false);
        is("3 all are there still", x.count(11), 4);
        is("3 the first two alone", x.end(2), true);
        is("3 the latter two are gone", x.end(3), false);
        is("3 two", x.count(11), 2);
        x.sign('.' << 24 | '.' << 16 | 'b' << 8 | '7');
        is("3 six: 12..b7", x.canal(), 6);
        say(x, "2+0").barges();
        tells("3 the last is a 7", x, x.locks(0), 1, 5, 7);
        x.turnsRound(0);
        tells("3 the second is a 2", x, x.locks(0), 2, 1, 2);
        x.sign(0);
        is("3 none", x.end(0), true);
        is("3 none is left", x.count(11), 0);
        int[] bad = {-1, 4, 5, 80, 81, Integer.MIN_VALUE, Integer.MAX_VALUE};
        for (int n : bad) {
            refused("3 n " + n + " of 3", 0, y -> y.end(n) ? 1 : 0);
        }
    }

    // ---- 4: canal

    private static void canalSigns() {
        for (int place = 0; place < 4; place++) {
            canStand("4", BargesByBreath::new, "b9.1".substring(0, place), ".b123456789", BargesByBreath::canal);
        }
        canStand("4 the thirtieth", BargesByBreath::new, many(".", 29), ".b123456789", BargesByBreath::canal);
        canStand("4 the thirty-first", BargesByBreath::new, many(".", 30), "", BargesByBreath::canal);
    }

    private static void canalLengths() {
        for (int length = 0; length <= 80; length++) {
            long due = length < 4 ? -1 - length : length > 30 ? -31 : length;
            is("4 " + length + " signs", read(BargesByBreath::new, many("b", length), BargesByBreath::canal), due);
        }
        is("4 a sign ahead of the end", read(BargesByBreath::new, ".x.", BargesByBreath::canal), -2);
        is("4 a sign ahead of a thirty-first", read(BargesByBreath::new, many("1", 29) + "0.", BargesByBreath::canal), -30);
        is("4 a sign behind the thirty-first", read(BargesByBreath::new, many("1", 31) + "0", BargesByBreath::canal), -31);
        is("4 the first of two", read(BargesByBreath::new, "..x.x", BargesByBreath::canal), -3);
        BargesByBreath x = new BargesByBreath();
        for (int length = 4; length <= 30; length += 13) {
            is("4 cells", say(x, many(".", length - 1) + "9").canal(), length);
            is("4 cells", x.count(0), length);
            say(x, "0+0").barges();
            tells("4 the last CELL", x, x.locks(0), 1, length - 1, 9);
            is("4 the last CELL is there", x.near(length - 1, 0), 0);
            is("4 there is none behind it", x.near(length, 0), -1);
        }
        for (int lock = 1; lock <= 9; lock++) {
            BargesByBreath y = world("." + lock + "..", "0+0", "90a;90a");
            tells("4 a LOCK of " + lock, y, y.locks(0), 0, -1, lock);
        }
    }

    private static void canalAnew() {
        BargesByBreath x = fullWorld();
        is("4 there was something to undo", x.count(9), 3);
        is("4 an HOUR has gone", x.count(3), 1);
        is("4 anew", say(x, "..b.4...b.").canal(), 10);
        is("4 no BARGES", x.count(1), 0);
        is("4 no PASSENGERS", x.count(2), 0);
        is("4 HOUR is 0", x.count(3), 0);
        is("4 none is THERE", x.count(4), 0);
        is("4 none is AWAKE", x.count(5), 0);
        is("4 no BREATH", x.count(6), 0);
        is("4 no CARGO", x.count(7), 0);
        is("4 nothing can be undone", x.count(9), 0);
        is("4 nothing can be undone", x.undo(), -1);
        is("4 nothing is kept under 0", x.again(0), false);
        is("4 nothing is kept under 1", x.again(1), false);
        is("4 the text is empty", x.count(11), 0);
        isNone("4 no BARGES", () -> x.barge(0, 0));
        isNone("4 no PASSENGERS", () -> x.passenger(0, 0));
        is("4 all places are free again", say(x, "1+0;2+0;9+0").barges(), 3);
        BargesByBreath shorter = world("....9999", "0+0", "");
        tells("4 four LOCKS", shorter, shorter.locks(0), 4, 4, 9);
        is("4 a shorter one", say(shorter, "....").canal(), 4);
        is("4 a barge", say(shorter, "0+0").barges(), 1);
        tells("4 no CELLS of the former one are left", shorter, shorter.locks(0), 0, -1, 0);
        String[] bad = {"", "...", "....x", "...0", many(".", 31)};
        int[] at = {0, 3, 4, 3, 30};
        for (int i = 0; i < bad.length; i++) {
            refusedText("4 " + bad[i], bad[i], -1 - at[i], BargesByBreath::canal);
        }
    }

    // ---- 5: barges

    private static BargesByBreath longCanal() {
        return world(many(".", 30), "", "");
    }

    private static void bargeSigns() {
        Maker maker = EdgeTextsTest::longCanal;
        String[] starts = {"", "13+4;", "12-0;", "10+0;11+0;", "10+0;11+0;12+0;"};
        for (String start : starts) {
            canStand("5 a number", maker, start, DIGITS, BargesByBreath::barges);
            canStand("5 a second digit, + or -", maker, start + "2", DIGITS + "+-", BargesByBreath::barges);
            canStand("5 no third digit", maker, start + "29", "+-", BargesByBreath::barges);
            canStand("5 CARGO", maker, start + "29+", DIGITS, BargesByBreath::barges);
            canStand("5 CARGO", maker, start + "9-", DIGITS, BargesByBreath::barges);
            canStand("5 ; between", maker, start + "9-9", ";", BargesByBreath::barges);
        }
        canStand("5 a fifth LINE is none", maker, "0+0;1+0;2+0;3+0;", "", BargesByBreath::barges);
        canStand("5 a twentieth sign", maker, "00+0;01+0;02+0;03+0", "", BargesByBreath::barges);
    }

    private static void bargeCells() {
        Maker four = BargesByBreath::new;
        is("5 CELL 0", read(four, "0-0", BargesByBreath::barges), 1);
        is("5 CELL 00", read(four, "00-0", BargesByBreath::barges), 1);
        is("5 the last CELL", read(four, "3-0", BargesByBreath::barges), 1);
        is("5 the last CELL", read(four, "03-0", BargesByBreath::barges), 1);
        is("5 a CELL that is not there: its digit", read(four, "4-0", BargesByBreath::barges), -1);
        is("5 a CELL that is not there: its last digit", read(four, "04-0", BargesByBreath::barges), -2);
        is("5 a CELL that is not there: its last digit", read(four, "99", BargesByBreath::barges), -2);
        is("5 a CELL that is not there, in a second LINE", read(four, "0+0;10+0", BargesByBreath::barges), -6);
        is("5 ahead of the sign behind it", read(four, "4x", BargesByBreath::barges), -1);
        for (int cells = 9; cells <= 11; cells++) {
            String canal = many(".", cells);
            Maker maker = () -> world(canal, "", "");
            is("5 9 of " + cells, read(maker, "9+0", BargesByBreath::barges), cells > 9 ? 1 : -1);
            is("5 10 of " + cells, read(maker, "10+0", BargesByBreath::barges), cells > 10 ? 1 : -2);
        }
        is("5 29 of 30", read(EdgeTextsTest::longCanal, "29+0", BargesByBreath::barges), 1);
        is("5 30 of 30", read(EdgeTextsTest::longCanal, "30+0", BargesByBreath::barges), -2);
        Maker locks = () -> world("1.9bbbbbbb1b", "", "");
        is("5 a LOCK: its digit", read(locks, "0+0", BargesByBreath::barges), -1);
        is("5 a LOCK: its last digit", read(locks, "00+0", BargesByBreath::barges), -2);
        is("5 a LOCK of 9", read(locks, "2-0", BargesByBreath::barges), -1);
        is("5 a LOCK: its last digit", read(locks, "10+0", BargesByBreath::barges), -2);
        is("5 a BEND is no LOCK", read(locks, "11+0;3+0", BargesByBreath::barges), 2);
        is("5 a barge of the same text", read(four, "1+0;2-0;1-0", BargesByBreath::barges), -9);
        is("5 a barge of the same text: the last digit", read(four, "1+0;01-0", BargesByBreath::barges), -6);
        BargesByBreath x = world("........", "0+0", "90a");
        is("5 a barge of an earlier text", say(x, "0-0").barges(), -1);
        is("5 it goes", x.hours(1), 0);
        is("5 where it was there is room", say(x, "0-0").barges(), 1);
        is("5 where it is there is none", say(x, "2-0").barges(), -1);
        BargesByBreath y = world("....", "0-0;3+9", "");
        is("5 CARGO 0", y.barge(0, 2), 0);
        is("5 CARGO 9", y.barge(1, 2), 9);
        is("5 - is down", y.barge(0, 1), 1);
        is("5 + is up", y.barge(1, 1), 0);
        is("5 at first not THERE, whatever its CELL", y.count(4), 0);
        is("5 at first not THERE", y.barge(0, 3) + y.barge(1, 3), 0);
        is("5 THERE", y.hours(1), 2);
        is("5 a canal anew", say(y, "....").canal(), 4);
        is("5 others", say(y, "0-0;3+9").barges(), 2);
        is("5 at first not THERE, though such ones were", y.count(4), 0);
    }

    private static void bargeEnds() {
        String whole = "10+0;1-1;22+2;3-3";
        BargesByBreath x = longCanal();
        for (int length = 1; length <= whole.length(); length++) {
            boolean good = length == 4 || length == 8 || length == 13 || length == 17;
            if (!good) {
                is("5 ends too early: " + length, say(x, whole.substring(0, length)).barges(), -1 - length);
                is("5 nothing of it comes", x.count(1), 0);
            }
        }
        is("5 ends in time", say(x, whole).barges(), 4);
        is("5 nothing of it comes, if a LINE can't", read(BargesByBreath::new, "0+0;1+0;2+0;4+0", BargesByBreath::barges), -13);
        String[] bad = {"5+0;x", "5+0;1+0", "5+0;4+0", "5+0;6", "5+0;6+0;7+0", "x", "2+0"};
        int[] at = {4, 4, 4, 5, 8, 0, 0};
        for (int i = 0; i < bad.length; i++) {
            // barges are on 1, 3 and 9 after an HOUR
            refusedText("5 " + bad[i], EdgeTextsTest::beside, bad[i], -1 - at[i], BargesByBreath::barges);
        }
    }

    /** Two barges, on 1 and on 2, and something to undo. */
    private static BargesByBreath beside() {
        BargesByBreath x = world("....9...", "1+0;2-0", "90a;51s", "1");
        x.keep(0);
        x.loads(1, 4);
        x.wakes(1);
        x.keep(1);
        return x;
    }

    private static void bargeRoom() {
        for (int before = 0; before <= 4; before++) {
            String there = before == 0 ? "" : "20+0;21+0;22+0;23+0".substring(0, 5 * before - 1);
            Maker maker = () -> world(many(".", 30), there, "");
            for (int more = 1; more <= 6; more++) {
                String text = "0+0;1+0;2+0;3+0;4+0;5+0".substring(0, 4 * more - 1);
                // a sixth LINE is behind the 19 signs, a fifth one is not
                long due = before + more <= 4 ? more : -1 - 4 * (4 - before);
                is("5 " + more + " LINES behind " + before, read(maker, text, BargesByBreath::barges), due);
            }
            is("5 an empty one: nothing", read(maker, "", BargesByBreath::barges), 0);
        }
        is("5 a ; behind the fourth", read(BargesByBreath::new, "0+0;1+0;2+0;3+0;", BargesByBreath::barges), -17);
        is("5 19 signs", read(BargesByBreath::new, "00+0;01+0;02+0;03+0", BargesByBreath::barges), 4);
        is("5 20: the first 19 could end", read(BargesByBreath::new, "00+0;01+0;02+0;03+0;", BargesByBreath::barges), -20);
        is("5 20: another sign", read(BargesByBreath::new, "00+0;01+0;02+0;03+00", BargesByBreath::barges), -20);
        is("5 80", read(BargesByBreath::new, "00+0;01+0;02+0;03+0" + many(";", 61), BargesByBreath::barges), -20);
        is("5 a fault at 18", read(BargesByBreath::new, "00+0;01+0;02+0;03+x;", BargesByBreath::barges), -19);
        is("5 a fault at 0", read(BargesByBreath::new, many("x", 20), BargesByBreath::barges), -1);
        is("5 no room, ahead of the 19", read(BargesByBreath::new, "0+0;1+0;2+0;3+0;0+0;0+0", BargesByBreath::barges), -17);
    }

    private static void bargesCome() {
        BargesByBreath x = beside();
        is("5 one more", say(x, "7-0").barges(), 1);
        is("5 the text is empty", x.count(11), 0);
        is("5 nothing can be undone", x.undo(), -1);
        is("5 nothing is kept", x.again(0), false);
        is("5 nothing is kept", x.again(1), false);
        is("5 those that were there stay", x.barge(1, 2), 4);
        is("5 HOUR stays", x.count(3), 0);
        BargesByBreath y = beside();
        is("5 an empty one", say(y, "").barges(), 0);
        sameInAll("5 an empty one: nothing", y, say(beside(), ""));
    }

    // ---- 6: passengers

    private static void passengerSigns() {
        for (int many = 0; many <= 4; many++) {
            String barges = many == 0 ? "" : "0+0;1+0;2+0;3+0".substring(0, 4 * many - 1);
            String good = DIGITS.substring(0, many);
            Maker maker = () -> world("....", barges, "");
            canStand("6 LUNGS 1 .. 9", maker, "", "123456789", BargesByBreath::passengers);
            canStand("6 a barge that is there, of " + many, maker, "1", good, BargesByBreath::passengers);
            canStand("6 a barge that is there, of " + many, maker, "9", good, BargesByBreath::passengers);
        }
        Maker maker = () -> world("....", "0+0;1+0", "");
        String[] starts = {"", "11s;", lines("90a", 7) + ";", lines("90a", 8) + ";"};
        for (String start : starts) {
            canStand("6 LUNGS", maker, start, "123456789", BargesByBreath::passengers);
            canStand("6 a barge", maker, start + "9", "01", BargesByBreath::passengers);
            canStand("6 a or s", maker, start + "91", "as", BargesByBreath::passengers);
            canStand("6 ; between", maker, start + "10s", start.length() < 32 ? ";" : "", BargesByBreath::passengers);
        }
        canStand("6 a thirty-sixth sign", maker, lines("10a", 9), "", BargesByBreath::passengers);
    }

    private static void passengerEnds() {
        Maker maker = () -> world("....", "0+0;1+0", "");
        String whole = lines("91s", 9);
        BargesByBreath x = maker.make();
        for (int length = 1; length < whole.length(); length++) {
            if (length % 4 != 3) {
                is("6 ends too early: " + length, say(x, whole.substring(0, length)).passengers(), -1 - length);
                is("6 nothing of it comes", x.count(2), 0);
            }
        }
        is("6 ends in time", say(x, whole).passengers(), 9);
        String[] bad = {"x", "0", "1", "10", "12a", "10a;", "10a;00a", "11s;12s", "11s;11s;11x"};
        int[] at = {0, 0, 1, 2, 1, 4, 4, 5, 10};
        for (int i = 0; i < bad.length; i++) {
            refusedText("6 " + bad[i], EdgeTextsTest::beside, bad[i], -1 - at[i], BargesByBreath::passengers);
        }
        is("6 without barges", say(new BargesByBreath(), "10a").passengers(), -2);
    }

    private static void passengerRoom() {
        for (int before = 0; before <= 9; before++) {
            String there = before == 0 ? "" : lines("50s", before);
            Maker maker = () -> world("....", "0+0;1+0", there);
            for (int more = 1; more <= 11; more++) {
                // ten LINES have more than 35 signs: the tenth would begin behind them
                long due = before + more <= 9 ? more : before == 0 ? -36 : -1 - 4 * (9 - before);
                is("6 " + more + " LINES behind " + before, read(maker, lines("91a", more), BargesByBreath::passengers), due);
            }
            is("6 an empty one: nothing", read(maker, "", BargesByBreath::passengers), 0);
            if (before > 0 && before < 9) {
                String full = lines("91a", 9 - before) + ";";
                is("6 a ; behind the ninth", read(maker, full, BargesByBreath::passengers), -1 - full.length());
            }
        }
        Maker maker = () -> world("....", "0+0", "");
        is("6 35 signs", read(maker, lines("10a", 9), BargesByBreath::passengers), 9);
        is("6 36: the first 35 could end", read(maker, lines("10a", 9) + ";", BargesByBreath::passengers), -36);
        is("6 80", read(maker, lines("10a", 20) + "x", BargesByBreath::passengers), -36);
        is("6 a fault at 34", read(maker, lines("10a", 8) + ";10x;", BargesByBreath::passengers), -35);
        is("6 a fault at 0", read(maker, many("x", 80), BargesByBreath::passengers), -1);
    }

    private static void passengersCome() {
        BargesByBreath x = beside();
        is("6 two more", say(x, "10s;91a").passengers(), 2);
        is("6 the text is empty", x.count(11), 0);
        is("6 LUNGS 1", x.passenger(2, 0), 1);
        is("6 LUNGS 9", x.passenger(3, 0), 9);
        is("6 BREATH at first LUNGS", x.passenger(2, 3), 1);
        is("6 BREATH at first LUNGS, of a sleeper, too", x.passenger(3, 3), 9);
        is("6 barges", x.passenger(2, 1) * 10 + x.passenger(3, 1), 1);
        is("6 AWAKE or not", x.count(5), 0b1011);
        is("6 nothing can be undone", x.undo(), -1);
        is("6 nothing is kept", x.again(0), false);
        is("6 nothing is kept", x.again(1), false);
        BargesByBreath y = beside();
        is("6 an empty one", say(y, "").passengers(), 0);
        sameInAll("6 an empty one: nothing", y, say(beside(), ""));
    }

    // ---- 7: rule

    private static void ruleSigns() {
        Maker maker = BargesByBreath::new;
        String things = DIGITS + "blcpmn(-";
        String signs = "+-*/";
        String compares = "<>=";
        String[] starts = {"", "-", "---", "b+", "b-", "b*", "b/", "b<", "b>", "b=", "(", "((((l+", "1*(", "(b)-", "b<-"};
        for (String start : starts) {
            String good = start.startsWith("((((") ? things.replace("(", "") : things;
            canStand("7 a thing", maker, start, good, BargesByBreath::rule);
        }
        canStand("7 behind a letter", maker, "b", signs + compares, BargesByBreath::rule);
        canStand("7 behind a letter in ( )", maker, "(n", signs + compares + ")", BargesByBreath::rule);
        canStand("7 behind a digit", maker, "1", DIGITS + signs + compares, BargesByBreath::rule);
        canStand("7 behind two digits", maker, "12", DIGITS + signs + compares, BargesByBreath::rule);
        canStand("7 behind three digits", maker, "123", signs + compares, BargesByBreath::rule);
        canStand("7 behind three digits in ( )", maker, "b+(000", signs + compares + ")", BargesByBreath::rule);
        canStand("7 behind ( )", maker, "(b)", signs + compares, BargesByBreath::rule);
        canStand("7 behind ( ) in ( )", maker, "((b)", signs + compares + ")", BargesByBreath::rule);
        canStand("7 not one behind the other", maker, "b<l", signs, BargesByBreath::rule);
        canStand("7 not one behind the other", maker, "b=l+c*-p", signs, BargesByBreath::rule);
        canStand("7 not one behind the other, in ( )", maker, "(b>l", signs + ")", BargesByBreath::rule);
        canStand("7 but in other ( )", maker, "(b>l)", signs + compares, BargesByBreath::rule);
        canStand("7 but in other ( )", maker, "b<(l", signs + compares + ")", BargesByBreath::rule);
        canStand("7 and no more behind that", maker, "b<(l=c)", signs, BargesByBreath::rule);
        canStand("7 four in one another", maker, "(((", things, BargesByBreath::rule);
        canStand("7 five in one another", maker, "((((", things.replace("(", ""), BargesByBreath::rule);
        canStand("7 five in one another", maker, "b*(1+(2-(-(-", things.replace("(", ""), BargesByBreath::rule);
        canStand("7 four beside four", maker, "((((b))))+(((", things, BargesByBreath::rule);
        canStand("7 no ) without (", maker, "((b))", signs + compares, BargesByBreath::rule);
    }

    private static void ruleEnds() {
        BargesByBreath x = new BargesByBreath();
        String[] early = {"-", "(", "b+", "b-", "b*", "b/", "b<", "b>", "b=", "(b", "(1", "((b)", "b+(l-", "--", "(b<l"};
        for (String text : early) {
            is("7 ends too early: " + text, say(x, text).rule(), -1 - text.length());
        }
        String[] whole = {"0", "00", "000", "999", "b", "-b", "--b", "(b)", "((((b))))", "b<l", "(b<l)<(c<p)", "(b<l)=1", "-(-(1))"};
        for (String text : whole) {
            is("7 " + text, say(x, text).rule(), 0);
        }
        String[] bad = {"1000", "0000", "b<l<c", "b=l=c", "b>l=c", "b<l+c<p", "(((((b)))))", "b)", "()", "b(l)", "(b)l", "1b", "b1"};
        int[] at = {3, 3, 3, 3, 3, 5, 4, 1, 1, 1, 3, 1, 1};
        for (int i = 0; i < bad.length; i++) {
            is("7 " + bad[i], say(x, bad[i]).rule(), -1 - at[i]);
        }
    }

    private static void ruleLengths() {
        BargesByBreath x = world("....", "0+0", "90a");
        String forty = many("1+", 19) + "l>";
        is("7 39 signs", say(x, many("1+", 19) + "l").rule(), 0);
        is("7 40 signs that can't end", say(x, forty).rule(), -41);
        is("7 40 signs", say(x, many("1-", 18) + "l>-9").rule(), 0);
        is("7 40 signs are read to the last", x.passenger(0, 4), 0);
        is("7 41: the first 40 could go on", say(x, forty + "1").rule(), -41);
        is("7 41: the first 40 could end", say(x, many("1-", 18) + "l>-99").rule(), -41);
        is("7 41: the first 40 could end", say(x, many("1-", 19) + "99x").rule(), -41);
        is("7 41: a number that could go on", say(x, many("1-", 19) + "999").rule(), -41);
        is("7 41: ( ) that could go on", say(x, "(" + many("1-", 19) + "1)").rule(), -41);
        is("7 80 of -", say(x, many("-", 80)).rule(), -41);
        is("7 a fault at 39", say(x, many("1-", 19) + "1x1").rule(), -40);
        is("7 a fault at 0", say(x, many(")", 80)).rule(), -1);
        is("7 39 - and a thing", say(x, many("-", 39) + "9").rule(), 0);
        is("7 39 - are one", x.passenger(0, 4), 0);
        is("7 38 - are none", say(x, many("-", 38) + "8").rule(), 0);
        is("7 38 - are none", x.passenger(0, 4), 8);
    }

    /** PUFF of one with BREATH 9 by a rule that is 1 or 0. */
    private static void holds(String comparison) {
        BargesByBreath x = world("....", "0+0", "90a", comparison);
        is("7 " + comparison, x.passenger(0, 4), 1);
    }

    private static void ruleReckoning() {
        String[] all = {"7/2=3", "-7/2=-3", "7/-2=-3", "-7/-2=3", "1/2=0", "-1/2=0", "7/0=0", "0/0=0", "-7/0=0", "7/(1-1)+5=5",
            "9-3-2=4", "9-(3-2)=8", "9-3+2=8", "8/4/2=1", "8/(4/2)=4", "7/2*2=6", "2*7/2=7", "2+3*4=14", "(2+3)*4=20", "20-6/3=18",
            "--5=5", "---5=-5", "-2*3=-6", "2*-3=-6", "6/-3=-2", "-(2+3)=-5", "5--2=7", "5---2=3", "-2-3=-5", "-2+3=1",
            "(1<2)=1", "(2<2)=0", "(3<2)=0", "(1>2)=0", "(2>2)=0", "(3>2)=1", "(1=2)=0", "(2=2)=1", "1+1<3", "3>1+1", "2*2=4",
            "-1<0", "0>-1", "(1<2)+(2<3)+(3<3)=2", "007=7", "999-998=1", "999>998", "000=0",
            "999*999*999*3<0", "999*999*999*2>0", "512*512*512*16<0", "512*512*512*16-1>0", "512*512*512*16/-1<0",
            "-(512*512*512*16)<0", "512*512*512*32=0", "((((1))))=1", "((2>1)+1)*((1<2)+1)=4"};
        for (String comparison : all) {
            holds(comparison);
        }
    }

    private static void ruleLetters() {
        BargesByBreath x = world("......", "0+0;2-9;3-1", "90a;51a;92a;42s;12a");
        x.sheet(2, 5, 7, -1);
        String[] letters = {"b", "l", "c", "p", "m", "n"};
        int[][] due = {{7, 6, 5, 0}, {7, 5, 5, 0}, {0, 5, 1, 0}, {1, 1, 3, 0}, {0, 0, 1, 0}, {0, 0, 0, 0}};
        // passenger 1 has 5 of LUNGS, so 6 is put to 5
        due[0][1] = 5;
        for (int i = 0; i < letters.length; i++) {
            say(x, letters[i]).rule();
            for (int p = 0; p < 4; p++) {
                is("7 " + letters[i] + " of " + p, x.passenger(p, 4), due[i][p]);
            }
        }
        BargesByBreath m = world("......", "0-0;5+0;1+0;2+0", "10a;11a;12a;13a", "m");
        int[] met = {0, 0, 1, 0};
        for (int p = 0; p < 4; p++) {
            is("7 m: the next CELL in its HEADING alone, " + p, m.passenger(p, 4), met[p]);
        }
        is("7 m: turned", m.turnsRound(2), 1);
        is("7 m: the CELL behind is the next one now", m.passenger(2, 4), 1);
        BargesByBreath full = world("....", "0+0", lines("90s", 8) + ";90a", "p");
        is("7 p: nine are aboard, asleep, too", full.passenger(8, 4), 9);
        // one CELL in HOURS 1, 2 and 3 each, none in HOUR 0 and in HOUR 12
        for (String rule : new String[] {"n", "n*n", "n/n"}) {
            BargesByBreath y = world(many(".", 30), "0+0", "10a", rule);
            is("7 n: nothing goes in HOUR 0", y.later(0, 1), 0);
            is("7 n: but in HOUR 1", y.later(0, 2), 1);
            is("7 n: in eleven of twelve", y.later(0, 12), 11);
            is("7 n: and not in HOUR 12", y.later(0, 13), 11);
            is("7 n: but in HOUR 13", y.later(0, 14), 12);
        }
        BargesByBreath n = world("....", "0+9", "90a;90a", "n");
        for (int hour = 0; hour <= 25; hour++) {
            n.sheet(2, 2, 9, 0);
            is("7 n: HOUR by 12 in HOUR " + hour, n.passenger(0, 4), Math.min(9, hour % 12));
            say(n, "n-8").rule();
            is("7 n - 8: HOUR by 12 in HOUR " + hour, n.passenger(0, 4), Math.max(0, hour % 12 - 8));
            say(n, "n").rule();
            n.hours(1);
        }
    }

    private static void rulePuffs() {
        BargesByBreath x = world("....", "0+0", "90a;90s");
        for (int breath = 0; breath <= 9; breath++) {
            x.sheet(2, 2, breath, 0);
            String[] rules = {"0-1", "0", "b-1", "b", "b+1", "999", "-999"};
            int[] due = {0, 0, Math.max(0, breath - 1), breath, breath, breath, 0};
            for (int i = 0; i < rules.length; i++) {
                say(x, rules[i]).rule();
                is("7 " + rules[i] + " put to 0 .. " + breath, x.passenger(0, 4), due[i]);
                is("7 0 of one that is not AWAKE", x.passenger(1, 4), 0);
                x.wakes(0);
                is("7 0 of one that fell asleep", x.passenger(0, 4), 0);
                x.wakes(0);
            }
            is("7 an empty one", say(x, "").rule(), 0);
            is("7 an empty one: none, (b+1)/2", x.passenger(0, 4), (breath + 1) / 2);
            is("7 0 of one that is not AWAKE", x.passenger(1, 4), 0);
            x = world("....", "0+0", "90a;90s");
        }
    }

    private static void rulesCome() {
        String[] bad = {"z", "b+", "(b", "1000", "b<l<c", many("b+", 20) + "b"};
        int[] at = {0, 2, 2, 3, 3, 40};
        for (int i = 0; i < bad.length; i++) {
            refusedText("7 " + bad[i], bad[i], -1 - at[i], BargesByBreath::rule);
        }
        BargesByBreath x = fullWorld();
        is("7 a rule", say(x, "l-1").rule(), 0);
        is("7 the text is empty", x.count(11), 0);
        is("7 what can be undone stays", x.count(9), 3);
        is("7 what is kept stays", x.again(0) && x.again(1), true);
    }
}
