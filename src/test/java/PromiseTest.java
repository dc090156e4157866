/** For each promise of the document: ordinary inputs, its edges and wrong inputs, with answers reckoned by hand. */
public final class PromiseTest extends Checks {
    public static void main(String[] args) {
        newObject();
        texts();
        canals();
        bargeTexts();
        passengerTexts();
        rules();
        ruleValues();
        bargesAndPassengers();
        sheets();
        hours();
        locksAndBlowing();
        acts();
        journeys();
        undoing();
        laterQuestions();
        whenQuestions();
        windQuestions();
        searches();
        holdsAndLocks();
        onions();
        yawning();
        laughing();
        games();
        dozing();
        resting();
        laws();
        years();
        keeping();
        counts();
        refusalsKeepTheRow();
        finish();
    }

    // ---- promises 1 to 10

    private static void newObject() {
        BargesByBreath x = new BargesByBreath();
        is("1 cells", x.count(0), 4);
        for (int what = 1; what <= 11; what++) {
            is("1 count " + what, x.count(what), 0);
        }
        is("1 no locks: a barge can be on each cell", say(x, "0+0;1+0;2+0;3+0").barges(), 4);
        isNone("1 row", () -> new BargesByBreath().row(0));
        is("1 none is kept", x.again(0), false);
        is("1 NONE", BargesByBreath.NONE, -1);
    }

    private static void texts() {
        BargesByBreath x = new BargesByBreath();
        for (int i = 1; i <= 20; i++) {
            is("2 sign", x.sign(0x2e2e2e2e), 4 * i);
        }
        is("2 80 at most", x.sign(0x2e2e2e2e), -1);
        is("2 a refused one leaves the text", x.count(11), 80);
        is("3 end", x.end(77), true);
        is("2 81 are too many", x.sign(0), -1);
        is("3 end", x.end(76), true);
        is("2 80 are not", x.sign(0), 80);
        is("3 not so many", x.end(81), false);
        is("3 below 0", x.end(-1), false);
        is("3 below 0", x.end(Integer.MIN_VALUE), false);
        is("3 false leaves the text", x.count(11), 80);
        is("3 all", x.end(80), true);
        is("3 none", x.end(0), true);
        is("3 none of none", x.end(0), true);
        is("3 one of none", x.end(1), false);
        is("2 highest byte first", x.sign('b' << 24 | '.' << 16 | '.' << 8 | '7'), 4);
        is("2 canal", x.canal(), 4);
        is("2 a bend first", say(x, "0+0").barges(), 1);
        is("2 the lock is the last", x.locks(0), 1);
        rowIs("2 the lock is the last", x, 3, 7);
        is("2 signs above 127", x.sign(0xffffffff), 4);
        is("2 can't stand", x.canal(), -1);
    }

    private static void canals() {
        BargesByBreath x = world("....b1", "0+0;4-3", "50a;61s");
        is("4 three", say(x, "...").canal(), -4);
        is("4 none", say(x, "").canal(), -1);
        is("4 a bad sign ahead of a short end", say(x, ".x").canal(), -2);
        is("4 0 is no lock", say(x, "..0.").canal(), -3);
        is("4 B is no bend", say(x, "...B").canal(), -4);
        is("4 31", say(x, many(".", 31)).canal(), -31);
        is("4 80", say(x, many("9", 80)).canal(), -31);
        is("4 a bad sign ahead of the 31st", say(x, many(".", 29) + "x.").canal(), -30);
        is("4 refused: the text is empty", x.count(11), 0);
        is("4 refused: barges are as they were", x.count(1), 2);
        is("4 refused: cells are as they were", x.count(0), 6);
        is("4 hours", x.hours(2), 0);
        is("4 keep", x.keep(1), true);
        is("4 refused", say(x, "...").canal(), -4);
        is("4 refused: can be undone", x.count(9), 1);
        is("4 refused: is kept", x.again(1), true);
        is("4 hours", x.hours(2), 0);
        is("4 heard", x.heard(0, 3), 1);
        is("4 rule", say(x, "b").rule(), 0);
        is("4 thirty", say(x, many(".b9", 10)).canal(), 30);
        is("4 cells", x.count(0), 30);
        is("4 no barges", x.count(1), 0);
        is("4 no passengers", x.count(2), 0);
        is("4 HOUR", x.count(3), 0);
        is("4 nothing can be undone", x.undo(), -1);
        is("4 nothing is kept", x.again(1), false);
        is("4 what was heard stays", x.count(8), 1);
        is("4 four", say(x, "19b.").canal(), 4);
        is("4 the rule stays", say(x, "3-0").barges(), 1);
        is("4 the rule stays", say(x, "70a").passengers(), 1);
        is("4 the rule stays", x.passenger(0, 4), 7);
    }

    private static void bargeTexts() {
        BargesByBreath x = world(many(".", 10) + "5b", "", "");
        is("5 a bend is fine", say(x, "11+9").barges(), 1);
        is("5 a lock: its last digit", say(x, "10+0").barges(), -2);
        is("5 a lock of 1", say(world("1.1.", "", ""), "02+0").barges(), -2);
        is("5 not there: its last digit", say(x, "12+0").barges(), -2);
        is("5 not there, with nothing behind", say(x, "99").barges(), -2);
        is("5 a barge is there", say(x, "0+0;11").barges(), -6);
        is("5 ends behind a digit that could be a cell", say(x, "0").barges(), -2);
        is("5 ends behind the sign", say(x, "0-").barges(), -3);
        is("5 ends behind ;", say(x, "0-0;").barges(), -5);
        is("5 third digit", say(x, "001+0").barges(), -3);
        is("5 no sign", say(x, "0*1").barges(), -2);
        is("5 no cargo", say(x, "0+x").barges(), -3);
        is("5 no ;", say(x, "0+1,1+1").barges(), -4);
        is("5 nothing of it came", x.count(1), 1);
        is("5 two more", say(x, "3-4;05+0").barges(), 2);
        is("5 cell", x.barge(2, 0), 5);
        is("5 heading", x.barge(1, 1), 1);
        is("5 cargo", x.barge(1, 2), 4);
        is("5 no room", say(x, "0+0;1+0").barges(), -5);
        is("5 one more", say(x, "0+0").barges(), 1);
        is("5 no room at all", say(x, "1+0").barges(), -1);
        is("5 empty", say(x, "").barges(), 0);
        BargesByBreath y = new BargesByBreath();
        is("5 more than 19", say(y, "00+0;01+0;02+0;03+0;").barges(), -20);
        is("5 more than 19, another sign", say(y, "00+0;01+0;02+0;03+0x").barges(), -20);
        is("5 more, a fault in the first 19", say(y, "00+0;01+0;02+0;03+x;").barges(), -19);
        is("5 19", say(y, "00+0;01+0;02+0;03+0").barges(), 4);
        is("5 at first not THERE", y.barge(3, 3), 0);
        is("5 at first not THERE", y.count(4), 0);
        BargesByBreath z = world("....", "0+0", "10a");
        z.hours(3);
        z.keep(0);
        is("5 refused", say(z, "1+").barges(), -3);
        is("5 empty", say(z, "").barges(), 0);
        is("5 empty, refused: can be undone", z.count(9), 1);
        is("5 empty, refused: kept", z.again(0), true);
        z.hours(3);
        is("5 a barge is there now", say(z, "3-0").barges(), -1);
        is("5 more", say(z, "0-0").barges(), 1);
        is("5 none can be undone", z.count(9), 0);
        is("5 none is kept", z.again(0), false);
        is("5 HOUR stays", z.count(3), 6);
    }

    private static void passengerTexts() {
        BargesByBreath x = world("......", "0+0;1+0", "");
        is("6 no LUNGS of 0", say(x, "00a").passengers(), -1);
        is("6 no such barge", say(x, "12a").passengers(), -2);
        is("6 neither a nor s", say(x, "11b").passengers(), -3);
        is("6 no ;", say(x, "11a:11a").passengers(), -4);
        is("6 ends", say(x, "1").passengers(), -2);
        is("6 ends", say(x, "11").passengers(), -3);
        is("6 ends", say(x, "11a;").passengers(), -5);
        is("6 nothing of it came", say(x, "11a;12a").passengers(), -6);
        is("6 nothing of it came", x.count(2), 0);
        is("6 more than 35", say(x, many("91s;", 9)).passengers(), -36);
        is("6 more than 35, another sign", say(x, many("91s;", 8) + "91sx").passengers(), -36);
        is("6 eight", say(x, many("91s;", 7) + "50a").passengers(), 8);
        is("6 no room", say(x, "11a;11a").passengers(), -5);
        is("6 ninth", say(x, "11a").passengers(), 1);
        is("6 no room", say(x, "x").passengers(), -1);
        is("6 empty", say(x, "").passengers(), 0);
        is("6 LUNGS", x.passenger(7, 0), 5);
        is("6 BREATH at first", x.passenger(7, 3), 5);
        is("6 AWAKE", x.count(5), 0b110000000);
        BargesByBreath y = world("....", "2+0", "30a");
        y.wakes(0);
        y.keep(0);
        is("6 refused", say(y, "31a").passengers(), -2);
        is("6 empty", say(y, "").passengers(), 0);
        is("6 can be undone still", y.count(9), 1);
        is("6 is kept still", y.again(0), true);
        y.wakes(0);
        is("6 more", say(y, "40s").passengers(), 1);
        is("6 none can be undone", y.undo(), -1);
        is("6 none is kept", y.again(0), false);
    }

    private static void rules() {
        BargesByBreath x = new BargesByBreath();
        String[] good = {"", "b", "007", "-b", "---b", "b--b", "b*-b", "(b<l)<c", "b<l", "(b)", "((((b))))",
            "((((b))))+((((l))))", "b+l-c*p/m>n", "999", many("b+", 19) + "b", many("-", 39) + "b", "(1=2)=(3>4)"};
        for (String text : good) {
            is("7 " + text, say(x, text).rule(), 0);
        }
        String[] bad = {"z", "b+", "b<l<c", "(b", "(((((b", "1000", "b l", "()", "b)", "+b", "b**l", "b<=l", "bl", "1b",
            "b1", "(b<l<c)", "(b))", "B", "b=", "(b)(l)", "b(", "(1)2", "((((b)+(l))<1)<(2=3))=(n)x", "*"};
        int[] at = {0, 2, 3, 2, 4, 3, 1, 1, 1, 0, 2, 2, 1, 1, 1, 4, 3, 0, 2, 3, 1, 3, 25, 0};
        for (int i = 0; i < bad.length; i++) {
            is("7 " + bad[i], say(x, bad[i]).rule(), -1 - at[i]);
        }
        is("7 41 that could go on", say(x, many("b+", 20) + "b").rule(), -41);
        is("7 41, the first 40 could end", say(x, many("b+", 19) + "11+").rule(), -41);
        is("7 41, the first 40 can't end", say(x, many("-", 41)).rule(), -41);
        is("7 80, a fault ahead", say(x, many("b+", 19) + "b)" + many("b", 40)).rule(), -40);
        is("7 the text is empty", x.count(11), 0);
    }

    /** PUFF by a rule of a passenger with LUNGS 9, BREATH 9, CARGO 4, three aboard, a barge ahead, HOUR 14. */
    private static void ruleValues() {
        BargesByBreath x = world(".........", "0+4;1+9", "90s;60a;50s");
        is("7 hours", x.hours(14), 0);
        is("7 wakes", x.wakes(0), 2);
        is("7 breath", x.sheet(2, 3, 9, -3), 9 + 6 + 3);
        String[] texts = {"b", "l", "c", "p", "m", "n", "", "b+1", "b-10", "7/2", "-7/2+5", "7/0+1", "2+3*2", "9-3-2",
            "8/2/2", "8/(4/2)", "2*3<7", "2*3>7", "2+2=4", "(b>l)+1", "-(2-6)", "--5", "5--2", "2*-3+9", "b<l<1",
            "999*999*999*999", "0-5+(m=1)*8", "100-93", "(1<2)+(2<1)+(2=2)", "-1<0"};
        int[] due = {9, 9, 4, 3, 1, 2, 5, 9, 0, 3, 2, 1, 8, 4, 2, 4, 1, 0, 1, 1, 4, 5, 7, 3, 3, -1, 3, 7, 2, 1};
        for (int i = 0; i < texts.length; i++) {
            boolean stands = !texts[i].equals("b<l<1");
            is("7 " + texts[i], say(x, texts[i]).rule(), stands ? 0 : -4);
            int wraps = 999 * 999 * 999 * 999;
            int value = due[i] < 0 ? Math.max(0, Math.min(9, wraps)) : due[i];
            if (stands) {
                is("7 value of " + texts[i], x.passenger(0, 4), value);
            }
        }
        say(x, "3").rule();
        is("7 refused", say(x, "b+").rule(), -3);
        is("7 a refused rule leaves the former one", x.passenger(0, 4), 3);
        is("7 not more than BREATH", say(x, "900").rule(), 0);
        is("7 not more than BREATH", x.passenger(1, 4), 6);
        is("7 0 of a sleeper", x.passenger(2, 4), 0);
        BargesByBreath y = world("....", "3+0;0-0;1-0", "90a;81a;72a");
        say(y, "m+1").rule();
        is("m: nothing beyond the end", y.passenger(0, 4), 1);
        is("m: nothing beyond the end", y.passenger(1, 4), 1);
        is("m: a barge of the same heading", y.passenger(2, 4), 2);
    }

    private static void bargesAndPassengers() {
        BargesByBreath x = world("......", "2+1;5-0", "50a;70s;41a;30a");
        int[] due = {2, 0, 1, 0, 3 + 2 - 1 - 1, 8, 0b1011};
        int[] second = {5, 1, 0, 0, 2, 4, 0b100};
        for (int what = 0; what < 7; what++) {
            is("8 barge 0 " + what, x.barge(0, what), due[what]);
            is("8 barge 1 " + what, x.barge(1, what), second[what]);
        }
        isNone("8 barge 2", () -> x.barge(2, 0));
        isNone("8 barge -1", () -> x.barge(-1, 0));
        isNone("8 what 7", () -> x.barge(0, 7));
        isNone("8 what -1", () -> x.barge(0, -1));
        isNone("8 neither", () -> x.barge(Integer.MIN_VALUE, Integer.MAX_VALUE));
        is("8 turns", x.turnsRound(1), 0);
        is("8 hours", x.hours(1), 1);
        is("8 THERE", x.barge(1, 3), 1);
        is("8 WIND is 0 at least", x.loads(0, 9), 11);
        is("8 WIND is 0 at least", x.barge(0, 4), 0);
        BargesByBreath y = world("......", "2+1;5-0", "50a;70s;41a;30a");
        int[][] people = {{5, 0, 1, 5, 3}, {7, 0, 0, 7, 0}, {4, 1, 1, 4, 2}, {3, 0, 1, 3, 2}};
        for (int p = 0; p < 4; p++) {
            for (int what = 0; what < 5; what++) {
                is("9 passenger " + p + " " + what, y.passenger(p, what), people[p][what]);
            }
        }
        isNone("9 passenger 4", () -> y.passenger(4, 0));
        isNone("9 passenger -1", () -> y.passenger(-1, 0));
        isNone("9 what 5", () -> y.passenger(0, 5));
        isNone("9 what -1", () -> y.passenger(0, -1));
    }

    private static void sheets() {
        BargesByBreath x = world("......", "2+1;5-0", "50a;70s;41a");
        is("10 ints", x.sheet(2, 3, 1, 1), 6);
        is("10 one behind the other", x.passenger(2, 3), 3);
        is("10 those behind it have 0", x.sheet(2, 2, 1, 1), 3);
        is("10 those behind it have 0", x.passenger(2, 3), 0);
        is("10 LUNGS at most", x.sheet(2, 9, 100, 0), 16);
        is("10 0 at least", x.sheet(2, 3, 4, -3), 5);
        is("10 bytes", x.sheet(0, 3, 256 + 3, 256), 9);
        is("10 bytes have a sign", x.sheet(0, 3, 128, 1), 0);
        is("10 a byte of 127", x.sheet(0, 1, 127, 0), 5);
        is("10 shorts", x.sheet(1, 2, 65536 + 2, 65536), 4);
        is("10 shorts have a sign", x.sheet(1, 3, 32768, 0), 0);
        is("10 a byte's sign is none of a short", x.sheet(1, 1, 128, 0), 5);
        is("10 ints wrap", x.sheet(2, 2, Integer.MAX_VALUE, 1), 5);
        is("10 none", x.sheet(1, 0, 4, 4), 0);
        is("10 full", x.sheet(2, 9, 9, 0), 16);
        is("10 n below 0", x.sheet(2, -1, 1, 1), -2);
        is("10 n below 0", x.sheet(0, Integer.MIN_VALUE, 1, 1), -2);
        is("10 n above 9", x.sheet(0, 10, 1, 1), -1);
        is("10 n above 9 of a missing one", x.sheet(3, 10, 1, 1), -1);
        is("10 kind 4", x.sheet(4, -1, 1, 1), -1);
        is("10 kind -1", x.sheet(-1, 1, 1, 1), -1);
        is("10 nothing changes", x.count(6), 16);
        is("10 missing", x.sheet(3, -5, 7, 7), -3);
        is("10 missing: all 0", x.count(6), 0);
        is("10 with nobody", new BargesByBreath().sheet(2, 9, 3, 3), 0);
        is("10 can't be undone", x.undo(), -1);
    }

    // ---- promises 11 to 17

    private static void hours() {
        BargesByBreath x = world("..........", "0+0", "90a;90a");
        is("11 WIND", x.barge(0, 4), 10);
        is("11 three steps at most", x.hours(1), 0);
        rowIs("11", x, 3, 0);
        is("11 BREATH", x.passenger(0, 3), 5);
        is("11 WIND 6: two steps", x.hours(1), 0);
        rowIs("11", x, 2, 0);
        is("11 WIND 4: two steps", x.hours(1), 0);
        rowIs("11", x, 2, 0);
        is("11 WIND 2: one step", x.hours(1), 0);
        rowIs("11", x, 1, 0);
        is("11 till it is THERE", x.hours(60), 1);
        rowIs("11", x, 1, 0);
        is("11 HOUR", x.count(3), 64);
        is("11 0", x.hours(0), 1);
        rowIs("11 0", x, 0, 0);
        is("11 -1", x.hours(-1), -1);
        is("11 61", x.hours(61), -1);
        is("11 refused: HOUR", x.count(3), 64);
        BargesByBreath y = world("b.b.", "2-9;3+0;0+0", "40a;70a;50s;61s;12s");
        y.sheet(2, 5, 0, 1);
        is("11 without WIND one at its end is THERE", y.hours(1), 1);
        rowIs("11", y, 0, 0);
        is("11 THERE", y.count(4), 0b010);
        is("11 1 more, 2 more on a bend", y.breath(0), 2 + 2 + 3 + 4 + 1);
        rowIs("11 LUNGS at most", y, 2, 2, 3, 4, 1);
        BargesByBreath z = world("......", "0+0", "");
        is("11 no wind", z.hours(60), 0);
        rowIs("11 no wind", z, 0, 0);
    }

    private static void locksAndBlowing() {
        BargesByBreath x = world("..4...", "0+0", "30a;30s;30s");
        is("11 lock", say(x, "b").rule(), 0);
        is("11 lock: WIND 1", x.barge(0, 4), 1);
        is("11 lock: goes to it", x.hours(1), 0);
        is("11 lock: stops at one of more", x.hours(9), 0);
        is("11 lock: is ahead of it", x.barge(0, 0), 1);
        is("11 lock: a held breath", x.sheet(2, 3, 3, 0), 9);
        is("11 lock: wakes", x.wakes(1), 2);
        is("11 lock: HOLD 6, WIND 5", x.hours(1), 0);
        is("11 lock: opens", x.barge(0, 0), 3);
        BargesByBreath y = world("......", "0+0;3-0", "90a;90a;21a");
        is("11 blown: goes 2, blows back 1", y.hours(1), 0);
        rowIs("11 blown", y, 3, 1);
        // 0 goes 0, 1, 2, blows 1 from 3 to 4 and is on 3; then 1 can't: less WIND
        is("11 blown: the one that comes", y.barge(0, 0), 3);
        is("11 blown: the other one", y.barge(1, 0), 4);
    }

    private static void acts() {
        BargesByBreath x = world("........", "0+0;1-5;3+0", "90a;51s;30a");
        is("12 changes", x.changes(0, 1), 2);
        is("12 its barge", x.passenger(0, 1), 1);
        is("12 aboard it", x.changes(0, 1), -2);
        is("12 not beside", x.changes(0, 2), -3);
        is("12 no such passenger", x.changes(3, 0), -1);
        is("12 no such barge", x.changes(0, 3), -1);
        is("12 below 0", x.changes(-1, -1), -1);
        is("12 can be undone", x.count(9), 1);
        is("13 falls asleep", x.wakes(0), 1);
        is("13 wakes", x.wakes(1), 2);
        is("13 bits", x.count(5), 0b110);
        is("13 none such", x.wakes(3), -1);
        is("13 none such", x.wakes(-1), -1);
        is("14 loads", x.loads(1, 9), 15);
        is("14 loads", x.loads(0, 1), 10);
        is("14 so much", x.loads(1, 9), -2);
        is("14 10", x.loads(1, 10), -1);
        is("14 -1", x.loads(1, -1), -1);
        is("14 no such barge", x.loads(3, 1), -1);
        is("14 no such barge", x.loads(-1, 1), -1);
        is("14 CARGO", x.barge(1, 2), 9);
        is("15 turns", x.turnsRound(0), 1);
        is("15 turns back", x.turnsRound(0), 0);
        is("15 none such", x.turnsRound(3), -1);
        is("15 none such", x.turnsRound(-1), -1);
        is("15 turns", x.turnsRound(0), 1);
        is("15 at its end", x.hours(1), 1);
        is("15 THERE", x.barge(0, 3), 1);
        is("15 turns", x.turnsRound(0), 0);
        is("15 not THERE", x.barge(0, 3), 0);
        is("17 those that were done", x.count(9), 1 + 2 + 2 + 3 + 1 + 1);
    }

    private static void journeys() {
        BargesByBreath x = world("......", "0+0;1+0", "90a;81a");
        is("16 all", say(x, "w0w0l05t1c01h2").journey(), 6);
        rowIs("16 all", x, 0, 2);
        is("16 as one", x.count(9), 1);
        is("16 undone", x.undo(), 0);
        is("16 undone", x.barge(0, 2), 0);
        is("16 HOUR undone", x.count(3), 0);
        is("16 till one can't be", say(x, "h1l00w1").journey(), 1);
        rowIs("16 till one can't be", x, 1, 1);
        is("16 those behind are not done", x.passenger(1, 2), 1);
        is("16 the first can't be", say(x, "w9h1").journey(), 0);
        rowIs("16 the first can't be", x, 1, 1);
        is("16 nothing was done", x.count(9), 1);
        is("16 empty", say(x, "").journey(), 0);
        rowIs("16 empty", x, 0, 1);
        is("16 empty: nothing to undo", x.count(9), 1);
        is("16 h0 is done", say(x, "h0").journey(), 1);
        is("16 h0 can be undone", x.count(9), 2);
        String[] bad = {"x", "h", "hh", "c0", "c0x", "l", "l1", "w", "t", "h1;h1", "1", "H1", "h12"};
        int[] at = {0, 1, 1, 2, 2, 1, 2, 1, 1, 2, 0, 0, 2};
        for (int i = 0; i < bad.length; i++) {
            is("16 " + bad[i], say(x, "w0" + bad[i]).journey(), -1 - 2 - at[i]);
        }
        is("16 nothing is done then", x.count(5), 0b11);
        is("16 more than 60", say(x, many("w0", 30) + "h1").journey(), -61);
        is("16 more than 60, in an act", say(x, many("w0", 28) + "l05l06h1").journey(), -61);
        is("16 more than 60, a fault ahead", say(x, many("w0", 29) + "x1h1").journey(), -59);
        is("16 60", say(x, many("w0", 30)).journey(), 30);
        is("16 c aboard it", say(x, "c00").journey(), 0);
        is("16 t", say(x, "t0t2").journey(), 1);
        is("16 t", x.barge(0, 1), 1);
    }

    private static void undoing() {
        BargesByBreath x = world("......", "0+0;1+0", "90a;81a");
        is("17 none", x.undo(), -1);
        for (int i = 1; i <= 15; i++) {
            is("17 hours", x.hours(1) < 0, false);
            is("17 twelve at most", x.count(9), Math.min(12, i));
        }
        is("17 hours(0) is none", x.hours(0) < 0, false);
        is("17 refused ones are none", x.wakes(7), -1);
        is("17 -2 is none", x.loads(0, 0), -2);
        for (int i = 1; i <= 12; i++) {
            is("17 left", x.undo(), 12 - i);
            is("17 HOUR", x.count(3), 15 - i);
        }
        is("17 none is left", x.undo(), -1);
        is("17 HOUR", x.count(3), 3);
        BargesByBreath y = world("......", "0+0;1+0", "90a;81a");
        is("17 changes", y.changes(0, 1), 2);
        is("17 wakes", y.wakes(0), 1);
        is("17 loads", y.loads(1, 4), 10);
        is("17 turns", y.turnsRound(1), 1);
        is("17 hours", y.hours(1), 0);
        is("17 a sheet", y.sheet(2, 2, 1, 0), 2);
        is("17 undo", y.undo(), 4);
        is("17 BREATH, too", y.passenger(1, 3), 8);
        is("17 undo", y.undo(), 3);
        is("17 heading", y.barge(1, 1), 0);
        is("17 undo", y.undo(), 2);
        is("17 cargo", y.barge(1, 2), 0);
        is("17 undo", y.undo(), 1);
        is("17 awake", y.count(5), 3);
        is("17 undo", y.undo(), 0);
        is("17 barge", y.passenger(0, 1), 0);
        y.hours(1);
        say(y, "1").rule();
        is("17 a rule forgets none", y.undo(), 0);
        is("17 a rule is not undone", y.passenger(0, 4), 1);
        BargesByBreath z = world("....", "2+0", "90a");
        is("17 THERE", z.hours(1), 1);
        is("17 undo", z.undo(), 0);
        is("17 not THERE", z.count(4), 0);
        is("17 its cell", z.barge(0, 0), 2);
    }

    // ---- promises 18 to 25

    /** Barge 0 has WIND 5, 3, 2, 1 and 1 on; barge 1 stands. */
    private static BargesByBreath canalOfTwo() {
        return world("............", "0+0;8-1", "90a;21s");
    }

    private static void laterQuestions() {
        BargesByBreath x = canalOfTwo();
        int[] cells = {0, 2, 3, 4, 5, 6, 7, 8};
        for (int n = 0; n < cells.length; n++) {
            is("18 later", x.later(0, n), cells[n]);
            rowIs("18 later", x, cells[n], n < 7 ? 8 : 9);
            is("21 nearest", x.nearest(n), n < 7 ? 8 - cells[n] : 1);
            rowIs("21 nearest", x, 0, 1);
            is("25 near", x.near(5, n), n == 0 ? 1 : 0);
            rowIs("25 near", x, n == 0 ? 3 : Math.abs(5 - cells[n]));
        }
        is("18 the end", x.later(0, 99), 10);
        is("18 blown to the end", x.later(1, 99), 11);
        is("18 nothing changes", x.count(3), 0);
        is("18 no such barge", x.later(2, 0), -1);
        is("18 no such barge", x.later(-1, 0), -1);
        is("18 100", x.later(0, 100), -1);
        is("18 -1", x.later(0, -1), -1);
        is("21 100", x.nearest(100), -1);
        is("21 -1", x.nearest(-1), -1);
        is("21 fewer than two", world("....", "1+0", "").nearest(0), -2);
        BargesByBreath y = world("........", "7+0;1+0;3+0;5+0", "");
        is("21 of like ones the least", y.nearest(9), 2);
        rowIs("21 of like ones the least", y, 0, 3);
        is("22 breath", x.breath(0), 11);
        rowIs("22 breath", x, 9, 2);
        is("22 breath", x.breath(2), 5);
        rowIs("22 breath", x, 3, 2);
        is("22 breath", x.breath(99), 4);
        is("22 100", x.breath(100), -1);
        is("22 -1", x.breath(-1), -1);
        is("25 of equal ones the first", y.near(4, 50), 2);
        rowIs("25 of equal ones the first", y, 1);
        is("25 no such cell", y.near(8, 0), -1);
        is("25 no such cell", y.near(-1, 0), -1);
        is("25 100", y.near(0, 100), -1);
        is("25 -1", y.near(0, -1), -1);
        is("25 no barges", new BargesByBreath().near(3, 99), -2);
        is("25 others first", new BargesByBreath().near(4, 99), -1);
    }

    private static void whenQuestions() {
        BargesByBreath x = canalOfTwo();
        is("19 never", x.arrives(0), -2);
        is("19 none such", x.arrives(2), -1);
        is("19 none such", x.arrives(-1), -1);
        is("20 stops at the other one", x.stops(0), 10);
        rowIs("20 stops", x, 10);
        is("20 has no wind", x.stops(1), 1);
        rowIs("20 has no wind", x, 8);
        is("20 none such", x.stops(2), -1);
        is("20 none such", x.stops(-1), -1);
        is("23 meets", x.meets(0, 1), 6);
        rowIs("23 meets", x, 7, 8);
        is("23 the other way", x.meets(1, 0), 6);
        rowIs("23 the other way", x, 8, 7);
        is("23 like ones", x.meets(1, 1), -1);
        is("23 none such", x.meets(0, 2), -1);
        is("23 none such", x.meets(-1, 0), -1);
        is("23 never", world("......", "0+0;2+0", "").meets(0, 1), -2);
        is("23 now", world("......", "0+0;1+0", "").meets(0, 1), 0);
        BargesByBreath y = world("......", "0+0;5+0", "90a;91a");
        is("19 arrives behind another one", y.arrives(0), -2);
        is("19 at its end", y.arrives(1), 1);
        rowIs("19 HOLD then", y, 5);
        is("20 at its end", y.stops(1), -2);
        is("19 hour", y.hours(1), 1);
        is("19 is THERE", y.arrives(1), 0);
        rowIs("19 HOLD then", y, 5);
        is("20 is THERE", y.stops(1), -2);
        BargesByBreath z = world("......", "0+0", "90a;20s;31s".substring(0, 7));
        say(z, "(n>1)*(b-1)").rule();
        is("24 now", z.tires(0), 0);
        rowIs("24 now", z, 9);
        is("24 a sleeper", z.tires(1), 0);
        rowIs("24 a sleeper", z, 2);
        say(z, "(n<3)*2").rule();
        is("24 later", z.tires(0), 3);
        rowIs("24 BREATH then", z, 6);
        say(z, "1").rule();
        is("24 never", z.tires(0), -2);
        is("24 none such", z.tires(2), -1);
        is("24 none such", z.tires(-1), -1);
        latestHours();
        BargesByBreath far = world(many(".", 30), "0+0", "10a");
        is("19 one cell an hour", far.arrives(0), 29);
        rowIs("19 HOLD then", far, 1);
        is("20 never", far.stops(0), -2);
        say(far, "(n=0)").rule();
        is("20 waits", far.stops(0), 2);
        rowIs("20 waits", far, 1);
    }

    /** One with LUNGS 2 blows a barge one cell in four HOURS; barge 0 stands and blows till it is met. */
    private static void latestHours() {
        String rule = "(l=1)*(1-m)+(l=2)*(n/4*4=n)";
        for (int early = 0; early < 2; early++) {
            // 25 cells: the last one in HOUR 101, the 99th from HOUR 2 on, the 100th from HOUR 1 on
            int before = 2 - early;
            BargesByBreath x = world(many(".", 30), "0+9;27-0", "10a;21a");
            say(x, rule).rule();
            x.hours(before);
            is("23 99 is the latest", x.meets(0, 1), early == 0 ? 99 : -2);
            is("24 99 is the latest", x.tires(0), early == 0 ? 99 : -2);
            BargesByBreath y = world(many(".", 27), "26-0;0+0", "20a");
            say(y, rule).rule();
            y.turnsRound(1);
            y.hours(before);
            is("19 99 is the latest", y.arrives(0), -2);
            BargesByBreath z = world(many(".", 27), "26-0", "20a");
            say(z, rule).rule();
            z.hours(before);
            is("19 99 is the latest", z.arrives(0), early == 0 ? 99 : -2);
            is("34 99 is the latest", z.onion(0, 1), -2);
            BargesByBreath h = world(many(".", 27), "26+0;25-9", "20a;20s;20s");
            say(h, rule).rule();
            h.hours(before);
            is("27 99 is the latest", h.hastens(1), -2);
            is("27 loads", h.loads(1, 0), 19);
            is("27 99 is the latest", h.hastens(1), early == 0 ? 0 : -2);
        }
    }

    // ---- promises 26 to 34

    private static void windQuestions() {
        BargesByBreath x = world("......", "0+1;3+0;5+9", "30a;51a;61s;51a;92a");
        is("26 the most", x.helps(0), 4);
        rowIs("26 WIND then, without", x, 2 + 5 - 1, 1);
        is("26 the first of equal ones", x.helps(2), 0);
        rowIs("26 0 at least", x, 0, 0);
        is("26 nobody aboard another one", world("....", "0+0;1+0", "90a").helps(0), -2);
        is("26 a sleeper alone", world("....", "0+0;1+0", "90s").helps(1), 0);
        is("26 nobody", world("....", "0+0;1+0", "").helps(1), -2);
        is("26 none such", x.helps(3), -1);
        is("26 none such", x.helps(-1), -1);
        BargesByBreath y = world("......", "0+0;5-0", "90a;31s;41a;21a");
        say(y, "p").rule();
        is("26 by how many are aboard then", y.helps(0), 2);
        rowIs("26 by how many are aboard then", y, 4, 1);
        BargesByBreath z = world("........", "3+0;0-0", "31a;91s;91a;91a");
        // by 0: one cell an hour; by 2: WIND 5, 3, 2
        is("27 the soonest", z.hastens(0), 2);
        rowIs("27 the soonest", z, 3);
        is("27 nobody", world("....", "0+0;1+0", "").hastens(0), -2);
        is("27 none such", z.hastens(2), -1);
        is("27 none such", z.hastens(-1), -1);
        is("27 asleep", world("....", "0+0;2+0", "91s").hastens(0), -2);
        BargesByBreath there = world("....", "3+0;1+0", "91a");
        is("27 at its end", there.hastens(0), 0);
        rowIs("27 at its end", there, 1);
        there.hours(1);
        is("27 is THERE", there.hastens(0), -2);
    }

    private static void searches() {
        BargesByBreath x = world("......", "0-0;3+0", "31s;91s;91s;40a");
        is("28 by none it is better: the first", x.rouses(1), 0);
        rowIs("28 then, without", x, 1, 1);
        is("28 the most", x.rouses(30), 1);
        rowIs("28 the most", x, 2, 1);
        is("28 0", x.rouses(0), -1);
        is("28 31", x.rouses(31), -1);
        is("28 all are AWAKE", world("....", "0+0", "10a").rouses(1), -2);
        is("28 another n first", world("....", "0+0", "10a").rouses(31), -1);
        BargesByBreath e = world("....", "0+0", "50a;30a;80s;40a;20a");
        is("29 evens", e.evens(), 0);
        rowIs("29 3 and 4, not 5 and 2: the least", e, 0b01010, 7);
        e.sheet(2, 5, 5, 0);
        is("29 of 5, 3, 4, 2", e.evens(), 0);
        is("29 nobody", new BargesByBreath().evens(), 0);
        BargesByBreath one = world("....", "0+0", "50a");
        is("29 one alone", one.evens(), 5);
        rowIs("29 the empty part is the least", one, 0, 0);
        BargesByBreath s = world("........", "0+0;4+0", "90a;91s");
        is("30 nobody is as good", s.seats(1), 0);
        rowIs("30 nobody is as good", s);
        // WIND 4, 2: cells 6, 7
        is("30 the passenger, the barge", s.seats(2), 1);
        rowIs("30 the passenger, the barge", s, 0, 1);
        is("30 0", s.seats(0), -1);
        is("30 31", s.seats(31), -1);
        BargesByBreath p = world("........", "0-0;3+9;4-9", "90a;90a;81s;81s;72s");
        is("31 nobody", p.pairs(1), 1);
        rowIs("31 nobody", p);
        is("31 0", p.pairs(0), -1);
        is("31 31", p.pairs(31), -1);
        BargesByBreath q = world("......", "2+3;1-3;0-0", "90a;91a");
        // barge 2 is at its end; the other passenger brings barge 0 WIND 7
        is("31 one", q.pairs(1), 2);
        rowIs("31 one", q, 1, 0);
        BargesByBreath two = world("....", "0-0;2+5", "90a;90a;91s");
        is("31 one is not enough", two.seats(1), 1);
        rowIs("31 one is not enough", two);
        is("31 two are", two.pairs(1), 2);
        rowIs("31 two are", two, 0, 1, 1, 1);
        BargesByBreath back = world("....", "2+5;0-0", "91a;90s;91a");
        // WIND of barge 0 by one: 5 less 5 and the sleeper
        is("31 to barge 0: two", back.pairs(1), 2);
        rowIs("31 to barge 0: two", back, 0, 0, 2, 0);
        is("31 to barge 0", back.wakes(1), 3);
        is("31 to barge 0: one", back.pairs(1), 2);
        rowIs("31 to barge 0: one", back, 0, 0);
        BargesByBreath single = world("....", "0-0;2+2", "90a;90a");
        is("31 the fewest", single.pairs(1), 2);
        rowIs("31 the fewest", single, 0, 1);
    }

    private static void holdsAndLocks() {
        BargesByBreath x = world("..3.b9.5", "3+0;1-0", "30a;50a;90s;40a;81a;50a");
        is("32 one", x.holds(0, 5), 1);
        rowIs("32 of as few the least", x, 0b000010);
        is("32 two", x.holds(0, 8), 2);
        rowIs("32 the least", x, 0b000011);
        is("32 two", x.holds(0, 10), 2);
        rowIs("32 sleepers don't", x, 0b100010);
        is("32 all", x.holds(0, 17), 4);
        rowIs("32 all", x, 0b101011);
        is("32 less", x.holds(0, 18), -2);
        is("32 less", x.holds(0, 99), -2);
        is("32 0", x.holds(0, 0), -1);
        is("32 100", x.holds(0, 100), -1);
        is("32 none such", x.holds(2, 1), -1);
        is("32 none such", x.holds(-1, 1), -1);
        is("33 none", x.locks(0), 0);
        rowIs("33 the most", x, -1, 9);
        x.sheet(2, 6, 2, 0);
        is("33 HOLD 8", x.locks(0), 1);
        rowIs("33 HOLD 8", x, 5, 9);
        x.sheet(2, 6, 1, 0);
        is("33 HOLD 4", x.locks(0), 2);
        rowIs("33 the first", x, 5, 9);
        is("33 turned", x.turnsRound(0), 1);
        is("33 the other way", x.locks(0), 0);
        rowIs("33 the other way", x, -1, 3);
        is("33 without locks", x.locks(1), 0);
        rowIs("33 without locks", x, -1, 0);
        is("33 none such", x.locks(2), -1);
        is("33 none such", x.locks(-1), -1);
    }

    private static void onions() {
        BargesByBreath x = world("........", "0+0", "90a;90a;90a");
        // WIND 15, 9, 6: there in 3; with 5: 10, 4: there in 3; with 9: 6, 0, 0
        is("34 5", x.arrives(0), 3);
        is("34 as soon", x.onion(0, 1), 100);
        is("34 never", x.onion(0, 9), -2);
        is("34 0", x.onion(0, 0), -1);
        is("34 10", x.onion(0, 10), -1);
        is("34 none such", x.onion(1, 1), -1);
        is("34 none such", x.onion(-1, 1), -1);
        is("34 nothing changes", x.barge(0, 2), 0);
        BargesByBreath late = world("........", "0+0", "90a;90a;90a");
        say(late, "4").rule();
        // 12: three a time, BREATH 9, 6, 3: WIND 12, 12, 9: there in 3
        is("34 without", late.arrives(0), 3);
        // with 6: WIND 6, 6, 3, 0 ..: 2, 4, 5, then BREATH 1, 1, 1: WIND 0
        is("34 is not with that", late.onion(0, 6), -2);
        // with 4: WIND 8, 8, 5: 3, 6, 7
        is("34 with 4", late.onion(0, 4), 100);
        BargesByBreath most = world("....", "2+8", "90a;90a");
        for (int k = 1; k <= 9; k++) {
            is("34 9 at most: WIND 1", most.onion(0, k), 100);
        }
        BargesByBreath fast = world("......", "0+0", "90a;90a");
        say(fast, "1+c*4").rule();
        // without: WIND 2, one cell an hour: 5; with 1: 10 less 1: 3, then BREATH 5: 9: 3
        is("34 without", fast.arrives(0), 5);
        is("34 earlier", fast.onion(0, 1), 100 + 2 - 5);
        BargesByBreath at = world("....", "3+0", "");
        at.hours(1);
        is("34 is THERE", at.onion(0, 9), 100);
    }

    // ---- promises 35 to 39

    private static void yawning() {
        BargesByBreath x = world(many(".", 20), "0+0;3+0;6-0;19-0", "10a;11s;12a;13a;12s");
        is("35 the same barge alone", x.yawns(2, 0), 0b10100);
        rowIs("35 one round", x, 1);
        is("35 2 are too few", x.yawns(0, 2), 0b00001);
        rowIs("35 nobody else", x, 0);
        is("35 on and on", x.yawns(0, 3), 0b10111);
        rowIs("35 two rounds", x, 2);
        is("35 from the middle", x.yawns(1, 3), 0b10111);
        rowIs("35 from the middle", x, 1);
        is("35 all", x.yawns(3, 13), 0b11111);
        rowIs("35 all", x, 2);
        is("35 30", x.yawns(3, 30), 0b11111);
        rowIs("35 30", x, 1);
        is("35 31", x.yawns(3, 31), -1);
        is("35 -1", x.yawns(3, -1), -1);
        is("35 none such", x.yawns(5, 3), -1);
        is("35 none such", x.yawns(-1, 3), -1);
    }

    private static void laughing() {
        BargesByBreath x = world("......", "0+0;3-0", "30a;50a;71s;91a;51s");
        is("38 nothing heard: all", x.fits(), 0b11111);
        rowIs("38 how many", x, 5);
        is("39 asks", x.asks(), 6);
        rowIs("39 asks", x, 3);
        int[][] bad = {{0, 0}, {0, 10}, {1, -1}, {1, 4}, {2, -1}, {2, 2}, {3, -1}, {3, 10}, {4, -1}, {4, 10}, {-1, 1}, {5, 1}};
        for (int[] b : bad) {
            is("36 refused " + b[0] + ", " + b[1], x.heard(b[0], b[1]), -1);
        }
        is("36 none was heard", x.count(8), 0);
        is("36 LUNGS", x.heard(0, 5), 1);
        is("38 LUNGS", x.fits(), 0b11110);
        is("36 barge", x.heard(1, 1), 2);
        is("38 barge", x.fits(), 0b11100);
        is("36 asleep", x.heard(2, 0), 3);
        is("38 asleep", x.fits(), 0b10100);
        is("39 of these", x.asks(), 6);
        rowIs("39 of these", x, 1);
        is("36 BREATH", x.heard(3, 6), 4);
        is("38 BREATH", x.fits(), 0b10000);
        rowIs("38 how many", x, 1);
        is("39 one", x.asks(), 1);
        rowIs("39 one", x, 1);
        is("36 PUFF", x.heard(4, 1), 5);
        is("38 PUFF", x.fits(), 0);
        is("39 none fits", x.asks(), -2);
        is("37 forget", x.forget(), 5);
        is("37 forget", x.forget(), 0);
        is("38 again all", x.fits(), 0b11111);
        is("36 PUFF now", x.heard(4, 3), 1);
        is("38 PUFF now", x.fits(), 0b00010);
        x.hours(1);
        is("38 PUFF now", x.fits(), 0b01000);
        x.forget();
        for (int i = 1; i <= 12; i++) {
            is("36 twelve", x.heard(2, 1), i);
        }
        is("36 a thirteenth", x.heard(2, 1), -1);
        is("36 awake", x.fits(), 0b01011);
    }

    // ---- promises 40 to 44

    private static void games() {
        BargesByBreath x = new BargesByBreath();
        int[] due = {0, 0, 1, 0, 1, 2, 0, 1, 2, 3, 1, 0, 1, 2, 3, 1, 5, 1, 2, 0};
        for (int n = 2; n < 2 + due.length; n++) {
            is("40 blows " + n, x.blows(n), due[n - 2]);
        }
        is("40 34", x.blows(34), 0);
        is("40 55", x.blows(55), 0);
        is("40 54 = 34 + 13 + 5 + 2", x.blows(54), 2);
        is("40 60 = 55 + 5", x.blows(60), 5);
        is("40 1", x.blows(1), -1);
        is("40 61", x.blows(61), -1);
        is("40 0", x.blows(0), -1);
        is("40 the least", x.blows(Integer.MIN_VALUE), -1);
    }

    private static void dozing() {
        BargesByBreath x = world("....", "0+0", "10s;10s;10a;10s");
        is("41 one hour", x.dozes(1, 1, 5), 0);
        rowIs("41 one hour", x, 7, 8);
        is("41 two of three", x.dozes(1, 2, 1), 0);
        rowIs("41 3 of 0.01 * 0.9 and 0.001", x, 7, 250);
        is("41 two hours", x.dozes(2, 3, 5), 0);
        rowIs("41 two hours", x, 27, 64);
        is("41 0 or more", x.dozes(4, 0, 0), 0);
        rowIs("41 0 or more", x, 1, 1);
        is("41 never", x.dozes(4, 1, 0), 0);
        rowIs("41 never", x, 0, 1);
        is("41 surely", x.dozes(1, 3, 10), 0);
        rowIs("41 surely", x, 1, 1);
        is("41 more than there are", x.dozes(1, 4, 10), 0);
        rowIs("41 more than there are", x, 0, 1);
        int[][] bad = {{0, 1, 5}, {5, 1, 5}, {1, -1, 5}, {1, 10, 5}, {1, 1, -1}, {1, 1, 11}};
        for (int[] b : bad) {
            is("41 refused", x.dozes(b[0], b[1], b[2]), -1);
        }
        BargesByBreath y = world("....", "0+0", many("10s;", 7) + "10s");
        is("41 sixteen", y.dozes(2, 8, 1), 0);
        rowIs("41 0.19 to the eighth", y, 16983563041L, 10000000000000000L);
        is("41 four times eight", y.dozes(4, 1, 1), -2);
        is("41 three times eight", y.dozes(3, 1, 1), -2);
        is("41 others first", y.dozes(3, 1, 11), -1);
        is("41 nothing changes", y.count(5), 0);
    }

    private static void resting() {
        BargesByBreath x = new BargesByBreath();
        is("42 at no cost", x.rests(0), 7);
        rowIs("42 at no cost", x, 0, 0);
        // at 9: both at 8 lose 1 / 2, cut to 0; at 9 nothing; one at 9, one at 8: the cheaper loses 1
        is("42 at 9", x.rests(9), 2);
        rowIs("42 at 9", x, 8, 8);
        is("42 10", x.rests(10), -1);
        is("42 -1", x.rests(-1), -1);
    }

    private static void laws() {
        BargesByBreath x = world("......", "0+0", "50a");
        say(x, "0").rule();
        // WIND 5, 1, 1, 1: there in 4
        is("43 another one", say(x, "b").law(), 1);
        rowIs("43 both", x, 1, 0);
        is("43 none", say(x, "").law(), 1);
        rowIs("43 none", x, 1, 0);
        is("43 the rule is as it was", x.passenger(0, 4), 0);
        say(x, "b").rule();
        is("43 below 0", say(x, "0").law(), -1);
        rowIs("43 below 0", x, 0, 1);
        is("43 the rule is as it was", x.passenger(0, 4), 5);
        is("43 nothing changes", x.count(3), 0);
        is("43 can't stand", say(x, "b+*").law(), -10002);
        is("43 ends", say(x, "(b").law(), -10002);
        is("43 at 0", say(x, ")").law(), -10000);
        is("43 more than 40", say(x, many("b+", 21)).law(), -10040);
        is("43 the text is empty", x.count(11), 0);
        rowIs("43 refused", x, 0, 1);
        is("43 the rule is as it was", x.passenger(0, 4), 5);
        BargesByBreath slow = world(many(".", 22), "0+0", "10a");
        is("43 20 hours", say(slow, "0").law(), 0);
        rowIs("43 21 cells are too far", slow, 0, 0);
        BargesByBreath near = world(many(".", 21), "0+0", "10a");
        is("43 20 hours", say(near, "0").law(), -1);
        rowIs("43 20 cells are not", near, 0, 1);
    }

    private static int r;

    private static int draw(int n) {
        r = r * 1103515245 + 12345;
        return (int) ((r & 0xffffffffL) / 65536 % n);
    }

    private static void years() {
        BargesByBreath x = world("......", "0+0;1+0", "90a;71s");
        is("44 0", x.years(1, 0), -1);
        is("44 61", x.years(1, 61), -1);
        for (int seed = -20; seed < 20; seed++) {
            BargesByBreath drawn = world("..b.......", "0+0;1+0;9-1", "90a;71s;52a;40a");
            int n = 41 + seed;
            r = seed * 99991;
            for (int i = 0; i < n; i++) {
                int kind = draw(4);
                if (kind < 2) {
                    drawn.hours(1);
                } else {
                    int p = draw(4);
                    is("44 wakes or changes", (kind == 2 ? drawn.wakes(p) : drawn.changes(p, draw(3))) == -1, false);
                }
            }
            BargesByBreath asked = world("..b.......", "0+0;1+0;9-1", "90a;71s;52a;40a");
            is("44 THERE", asked.years(seed * 99991, n), Integer.bitCount(drawn.count(4)));
            rowIs("44 AWAKE, BREATH", asked, Integer.bitCount(drawn.count(5)), drawn.count(6));
            is("44 nothing changes", asked.count(3) + asked.count(9), 0);
        }
        BargesByBreath nobody = world("....", "3+0", "");
        is("44 nobody", nobody.years(5, 60), 1);
        rowIs("44 nobody", nobody, 0, 0);
        // without passengers there is one DRAW a time: the first HOUR comes when it is 0 or 1
        for (int seed = 0; seed < 40; seed++) {
            r = seed;
            boolean hour = false;
            for (int i = 0; i < 3; i++) {
                hour |= draw(4) < 2;
            }
            is("44 no draws more", nobody.years(seed, 3), hour ? 1 : 0);
        }
    }

    // ---- promises 45 to 48

    private static void keeping() {
        BargesByBreath x = world("......", "0+0;5-4", "90a;71s");
        is("45 0", x.keep(0), true);
        is("45 2", x.keep(2), false);
        is("45 -1", x.keep(-1), false);
        is("46 nothing kept", x.again(1), false);
        is("46 none such", x.again(2), false);
        is("46 none such", x.again(-1), false);
        x.hours(2);
        x.wakes(1);
        x.loads(1, 1);
        x.turnsRound(1);
        is("45 1", x.keep(1), true);
        is("45 keeps what can be undone", x.count(9), 4);
        is("46 0", x.again(0), true);
        is("46 none can be undone", x.count(9), 0);
        is("46 HOUR", x.count(3), 0);
        is("46 BREATH", x.count(6), 16);
        is("46 CARGO", x.count(7), 4);
        is("46 HEADING", x.barge(1, 1), 1);
        is("46 AWAKE", x.count(5), 1);
        is("46 1", x.again(1), true);
        is("46 HOUR", x.count(3), 2);
        is("46 AWAKE", x.count(5), 3);
        is("46 0 once more", x.again(0), true);
        is("46 HOUR", x.count(3), 0);
        x.hours(3);
        is("46 refused", x.again(2), false);
        is("46 refused: can be undone", x.count(9), 1);
        is("45 over it", x.keep(0), true);
        x.undo();
        is("46 the latter", x.again(0), true);
        is("46 the latter", x.count(3), 3);
    }

    private static void counts() {
        BargesByBreath x = world("..b.5.", "0+2;5+4", "90a;71s");
        x.hours(1);
        x.heard(0, 1);
        x.later(0, 0);
        x.sign(0);
        int[] due = {6, 2, 2, 1, 0b10, 0b01, 5 + 7, 6, 1, 1, 2, 4};
        // BREATH 9 less 5 and 1: on cell 1
        for (int what = 0; what < due.length; what++) {
            is("47 count " + what, x.count(what), due[what]);
        }
        is("47 12", x.count(12), -1);
        is("47 -1", x.count(-1), -1);
        is("48 row", x.row(1), 5);
        isNone("48 2", () -> x.row(2));
        isNone("48 -1", () -> x.row(-1));
        isNone("48 the least", () -> x.row(Integer.MIN_VALUE));
    }

    private static void refusalsKeepTheRow() {
        BargesByBreath x = world("......", "0+0", "90a");
        x.later(0, 1);
        rowIs("ROW", x, 2);
        x.later(0, 100);
        x.hours(61);
        x.nearest(0);
        x.helps(0);
        x.hastens(0);
        x.rouses(4);
        x.holds(0, 99);
        say(x, "x").law();
        say(x, "x").journey();
        x.dozes(9, 9, 9);
        x.rests(10);
        x.years(0, 0);
        rowIs("ROW of a call that told one", x, 2);
    }
}
