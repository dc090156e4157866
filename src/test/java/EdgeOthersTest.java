import java.util.Arrays;

/** The boundary cases of promises 35 to 48, and of the ROW (Terms, 2). */
public final class EdgeOthersTest extends Checks {
    private static final int LEAST = Integer.MIN_VALUE;
    private static final int MOST = Integer.MAX_VALUE;

    public static void main(String[] args) {
        yawns();
        heardTaken();
        heardTwelve();
        fits();
        asks();
        blows();
        dozesTaken();
        dozesFractions();
        rests();
        lawTexts();
        lawHours();
        years();
        yearsOfNobody();
        keeping();
        againRefused();
        againBrings();
        counts();
        rows();
        rowStays();
        finish();
    }

    // ---- 35 to 39

    private static void yawns() {
        for (int v : new int[] {-1, 31, LEAST, MOST}) {
            refused("35 v " + v, -1, x -> x.yawns(0, v));
        }
        for (int p : new int[] {-1, 4, LEAST, MOST}) {
            refused("35 no passenger " + p, -1, x -> x.yawns(p, 3));
        }
        refused("35 neither", -1, x -> x.yawns(4, 31));
        changesNothing("35", x -> x.yawns(0, 3));
        BargesByBreath x = world(many(".", 30), "0+0;29-0", "10a;11s;10s;11a");
        tells("35 0 CELLS: aboard the same barge", x, x.yawns(0, 0), 0b0101, 1);
        tells("35 28 CELLS are too few", x, x.yawns(3, 28), 0b1010, 1);
        tells("35 29 CELLS", x, x.yawns(3, 29), 0b1111, 1);
        tells("35 30 CELLS", x, x.yawns(1, 30), 0b1111, 1);
        BargesByBreath alone = world(many(".", 30), "0+0;29-0", "10a;11s");
        tells("35 nobody else", alone, alone.yawns(0, 28), 0b01, 0);
        tells("35 nobody else", alone, alone.yawns(1, 0), 0b10, 0);
        BargesByBreath chain = world(many(".", 30), "0+0;3+0;6-0;9-0", "13s;12a;11s;10a");
        tells("35 three rounds", chain, chain.yawns(3, 3), 0b1111, 3);
        tells("35 two rounds", chain, chain.yawns(2, 3), 0b1111, 2);
        tells("35 two rounds", chain, chain.yawns(3, 6), 0b1111, 2);
        tells("35 one round", chain, chain.yawns(3, 9), 0b1111, 1);
        tells("35 one CELL too far", chain, chain.yawns(3, 2), 0b1000, 0);
        BargesByBreath nine = world("....", "0+0", lines("90s", 9));
        tells("35 nine", nine, nine.yawns(8, 0), 0b111111111, 1);
        BargesByBreath gone = world("......", "0+0;3+0", "91a;10s", "b");
        tells("35 ahead of an HOUR", gone, gone.yawns(0, 3), 0b11, 1);
        gone.hours(1);
        tells("35 where barges are now", gone, gone.yawns(0, 3), 0b01, 0);
    }

    private static void heardTaken() {
        int[] least = {1, 0, 0, 0, 0};
        int[] most = {9, 3, 1, 9, 9};
        for (int what = 0; what < 5; what++) {
            int w = what;
            for (int v = -2; v <= 12; v++) {
                int told = v;
                if (v >= least[what] && v <= most[what]) {
                    is("36 what " + what + ", v " + v, new BargesByBreath().heard(what, v), 1);
                } else {
                    refused("36 what " + what + ", v " + v, -1, x -> x.heard(w, told));
                }
            }
            refused("36 what " + what + ", the least v", -1, x -> x.heard(w, LEAST));
            refused("36 what " + what + ", the greatest v", -1, x -> x.heard(w, MOST));
        }
        for (int what : new int[] {-1, 5, LEAST, MOST}) {
            refused("36 what " + what, -1, x -> x.heard(what, 1));
        }
    }

    private static BargesByBreath twelve() {
        BargesByBreath x = fullWorld();
        for (int i = 3; i <= 12; i++) {
            is("36 how many such", x.heard(0, 1), i);
        }
        return x;
    }

    private static void heardTwelve() {
        refused("36 a thirteenth", EdgeOthersTest::twelve, -1, x -> x.heard(0, 1));
        BargesByBreath x = twelve();
        is("37 how many there were", x.forget(), 12);
        is("37 none is left", x.forget(), 0);
        is("36 the first again", x.heard(4, 0), 1);
        is("37 one", x.forget(), 1);
        is("37 of a new object", new BargesByBreath().forget(), 0);
        BargesByBreath y = fullWorld();
        BargesByBreath twin = fullWorld();
        y.forget();
        is("37 it is forgotten", y.count(8), 0);
        is("37 all fit", y.fits(), 0b1111);
        twin.forget();
        twin.fits();
        sameInAll("37 nothing else", y, twin);
    }

    private static void fitsIs(String what, BargesByBreath x, int who) {
        tells(what, x, x.fits(), who, Integer.bitCount(who));
    }

    private static void fits() {
        changesNothing("38", BargesByBreath::fits);
        BargesByBreath nobody = new BargesByBreath();
        fitsIs("38 nobody", nobody, 0);
        BargesByBreath x = world("....", "0+0;1+0;2+0;3+0", "10a;51s;92a;93s", "b/2");
        fitsIs("38 nothing was heard", x, 0b1111);
        int[][] told = {{0, 1}, {0, 5}, {0, 6}, {0, 9}, {1, 0}, {1, 3}, {2, 0}, {2, 1}, {3, 9}, {3, 5}, {3, 4}, {3, 1}, {3, 0},
            {4, 0}, {4, 4}, {4, 5}, {4, 9}};
        int[] who = {0b1111, 0b1110, 0b1100, 0b1100, 0b0001, 0b1000, 0b1010, 0b0101, 0b1111, 0b0011, 0b0001, 0b0001, 0,
            0b1011, 0b0100, 0, 0};
        for (int i = 0; i < told.length; i++) {
            is("36 heard", x.heard(told[i][0], told[i][1]), 1);
            fitsIs("38 what " + told[i][0] + ", v " + told[i][1], x, who[i]);
            x.forget();
        }
        x.heard(0, 5);
        x.heard(2, 0);
        x.heard(1, 3);
        fitsIs("38 all that was heard", x, 0b1000);
        x.wakes(3);
        fitsIs("38 now", x, 0);
        BargesByBreath nine = world("....", "0+0", lines("90s", 9));
        fitsIs("38 nine", nine, 0b111111111);
    }

    private static void asks() {
        changesNothing("39", BargesByBreath::asks);
        is("39 nobody", new BargesByBreath().asks(), -2);
        refused("39 none fits", () -> {
            BargesByBreath x = fullWorld();
            x.heard(3, 0);
            return x;
        }, -2, BargesByBreath::asks);
        String[] lungs = {"1", "9", "12", "89", "99", "19", "123456789", "999999999", "111111111", "111111119", "1999", "5577"};
        int[][] due = {{1, 1}, {1, 1}, {2, 1}, {9, 1}, {1, 2}, {2, 1}, {5, 5}, {1, 9}, {1, 9}, {2, 8}, {2, 3}, {6, 2}};
        for (int i = 0; i < lungs.length; i++) {
            StringBuilder text = new StringBuilder();
            for (char l : lungs[i].toCharArray()) {
                text.append(text.length() > 0 ? ";" : "").append(l).append("0s");
            }
            BargesByBreath x = world("....", "0+0", text.toString());
            tells("39 LUNGS " + lungs[i], x, x.asks(), due[i][0], due[i][1]);
        }
        BargesByBreath some = world("....", "0+0;1+0", "10a;50a;60a;91s;81s");
        some.heard(1, 1);
        tells("39 of those that fit", some, some.asks(), 9, 1);
    }

    // ---- 40 to 42

    /** Whether the one whose turn it is can have the last puff, who may blow so many at most. */
    private static boolean wins(int left, int most) {
        for (int x = 1; x <= Math.min(left, most); x++) {
            if (x == left || !WINNING[left - x][Math.min(left - x, 2 * x)]) {
                return true;
            }
        }
        return false;
    }

    private static final boolean[][] WINNING = new boolean[61][61];

    private static void blows() {
        for (int n : new int[] {LEAST, -1, 0, 1, 61, MOST}) {
            refused("40 n " + n, -1, x -> x.blows(n));
        }
        changesNothing("40", x -> x.blows(60));
        for (int left = 1; left <= 60; left++) {
            for (int most = 1; most <= left; most++) {
                WINNING[left][most] = wins(left, most);
            }
        }
        BargesByBreath x = new BargesByBreath();
        for (int n = 2; n <= 60; n++) {
            int least = 0;
            for (int first = n - 1; first >= 1; first--) {
                if (!WINNING[n - first][Math.min(n - first, 2 * first)]) {
                    least = first;
                }
            }
            is("40 n " + n, x.blows(n), least);
        }
        is("40 not all: 2", x.blows(2), 0);
        is("40 not all: 3", x.blows(3), 0);
        is("40 4", x.blows(4), 1);
    }

    private static BargesByBreath sleepers(int many) {
        return world("....", "0+0", many == 0 ? "90a" : lines("90s", many));
    }

    private static void dozesTaken() {
        int[][] bad = {{0, 1, 5}, {5, 1, 5}, {-1, 1, 5}, {1, -1, 5}, {1, 10, 5}, {1, 1, -1}, {1, 1, 11},
            {LEAST, 1, 5}, {MOST, 1, 5}, {1, LEAST, 5}, {1, MOST, 5}, {1, 1, LEAST}, {1, 1, MOST}};
        for (int[] b : bad) {
            refused("41 " + Arrays.toString(b), -1, x -> x.dozes(b[0], b[1], b[2]));
        }
        changesNothing("41", x -> x.dozes(2, 1, 3));
        for (int many = 0; many <= 9; many++) {
            for (int n = 1; n <= 4; n++) {
                BargesByBreath x = sleepers(many);
                is("41 " + n + " times " + many, x.dozes(n, 1, 5), n * many > 16 ? -2 : 0);
                is("41 others ahead of -2", x.dozes(n, 10, 5), -1);
            }
        }
        refused("41 above 16", () -> say(sleepers(9), ""), -2, x -> x.dozes(2, 0, 0));
    }

    private static void dozesFractions() {
        for (int many = 0; many <= 8; many++) {
            BargesByBreath x = sleepers(many);
            for (int k = 0; k <= 9; k++) {
                tells("41 by 0 tenths " + k, x, x.dozes(2, k, 0), 0, k == 0 ? 1 : 0, 1);
                tells("41 by 10 tenths " + k, x, x.dozes(2, k, 10), 0, k <= many ? 1 : 0, 1);
            }
        }
        BargesByBreath one = sleepers(1);
        long[][] tenths = {{0, 1}, {1, 10}, {1, 5}, {3, 10}, {2, 5}, {1, 2}, {3, 5}, {7, 10}, {4, 5}, {9, 10}, {1, 1}};
        for (int p = 0; p <= 10; p++) {
            tells("41 in lowest terms, by " + p, one, one.dozes(1, 1, p), 0, tenths[p]);
        }
        tells("41 within four HOURS", one, one.dozes(4, 1, 5), 0, 15, 16);
        BargesByBreath nine = sleepers(9);
        tells("41 all nine", nine, nine.dozes(1, 9, 5), 0, 1, 512);
        tells("41 eight or more", nine, nine.dozes(1, 8, 5), 0, 5, 256);
        tells("41 one or more", nine, nine.dozes(1, 1, 9), 0, 999999999L, 1000000000L);
        BargesByBreath eight = sleepers(8);
        tells("41 16: 0.19 to the eighth", eight, eight.dozes(2, 8, 1), 0, 16983563041L, 10000000000000000L);
        tells("41 16: one or more", eight, eight.dozes(2, 1, 9), 0, 9999999999999999L, 10000000000000000L);
        BargesByBreath four = sleepers(4);
        tells("41 16: one or more", four, four.dozes(4, 1, 9), 0, 9999999999999999L, 10000000000000000L);
        tells("41 one of them within one HOUR", four, four.dozes(1, 1, 1), 0, 3439, 10000);
    }

    private static void rests() {
        for (int c : new int[] {LEAST, -1, 10, MOST}) {
            refused("42 c " + c, -1, x -> x.rests(c));
        }
        changesNothing("42", x -> x.rests(9));
        BargesByBreath x = new BargesByBreath();
        for (int c = 0; c <= 9; c++) {
            int many = 0;
            int least = -1;
            for (int pair = 99; pair >= 0; pair--) {
                if (rest(pair / 10, pair % 10, c)) {
                    many++;
                    least = pair;
                }
            }
            tells("42 c " + c, x, x.rests(c), many, least / 10, least % 10);
        }
        tells("42 a gain of 9 - 9", x, x.rests(9), 2, 8, 8);
    }

    private static boolean rest(int one, int other, int c) {
        for (int another = 0; another <= 9; another++) {
            if (gain(another, other, c) > gain(one, other, c) || gain(another, one, c) > gain(other, one, c)) {
                return false;
            }
        }
        return true;
    }

    private static int gain(int mine, int other, int c) {
        int whole = mine - c;
        if (mine == other) {
            // cut to 0, below 0, too
            return whole < 0 ? -(-whole / 2) : whole / 2;
        }
        return mine < other ? whole : 0;
    }

    // ---- 43, 44

    private static void lawTexts() {
        String[] bad = {"z", "b+", "(b", "1000", "b<l<c", "((((((", many("b+", 20), many("b+", 20) + "b", many("-", 80)};
        int[] at = {0, 2, 2, 3, 3, 4, 40, 40, 40};
        for (int i = 0; i < bad.length; i++) {
            refusedText("43 " + bad[i], bad[i], -10000 - at[i], BargesByBreath::law);
        }
        String[] good = {"", "b", "n=7", many("b+", 19) + "b", many("b-", 19) + "99"};
        for (String text : good) {
            BargesByBreath x = say(fullWorld(), text);
            is("43 " + text, x.law() >= -4, true);
            is("43 the text is empty", x.count(11), 0);
            BargesByBreath twin = say(fullWorld(), "");
            x.fits();
            twin.fits();
            sameInAll("43 nothing else: " + text, x, twin);
        }
    }

    private static void lawHours() {
        // CELL 1 to CELL 3: in HOURS 8 and 20 by n=7, in 9 and 21 by n=8
        String[] rules = {"0", "n=7", "n=8"};
        int[] there = {0, 1, 0};
        for (int i = 0; i < rules.length; i++) {
            for (int j = 0; j < rules.length; j++) {
                BargesByBreath x = world("....", "1+0", "10a", rules[i]);
                tells("43 " + rules[j] + " for " + rules[i], x, say(x, rules[j]).law(), there[j] - there[i], there[j], there[i]);
                tells("43 none for " + rules[i], x, say(x, "").law(), 1 - there[i], 1, there[i]);
            }
        }
        BargesByBreath two = world("......", "1-0;4+0", "10a;11a", "0");
        tells("43 two more", two, say(two, "1").law(), 2, 2, 0);
        say(two, "1").rule();
        tells("43 two less", two, say(two, "0").law(), -2, 0, 2);
        BargesByBreath nobody = new BargesByBreath();
        tells("43 without barges", nobody, say(nobody, "1").law(), 0, 0, 0);
    }

    private static int r;

    private static int draw(int n) {
        r = r * 1103515245 + 12345;
        return (int) ((r & 0xffffffffL) / 65536 % n);
    }

    private static void doYears(BargesByBreath x, int seed, int n) {
        r = seed;
        for (int i = 0; i < n; i++) {
            int kind = draw(4);
            if (kind < 2) {
                x.hours(1);
            } else if (x.count(2) > 0) {
                int p = draw(x.count(2));
                is("44 it is done, or can't be", (kind == 2 ? x.wakes(p) : x.changes(p, draw(x.count(1)))) != -1, true);
            }
        }
    }

    private static BargesByBreath drawnWorld(int kind) {
        String[] barges = {"4+0;5+1;0-1;6+0", "4+0;5-0", "0+0", "4+0;5-0;3+0"};
        String[] passengers = {"90a;71s;52a;43a;12s;33a;83a", "90a;51s;41a", lines("90a", 9), "32a"};
        return world("..b....b..", barges[kind], passengers[kind]);
    }

    private static void years() {
        for (int n : new int[] {LEAST, -1, 0, 61, MOST}) {
            refused("44 n " + n, -1, x -> x.years(1, n));
        }
        int[] seeds = {0, 1, -1, LEAST, MOST, 12345, -12345, 65535, 65536, -65536, 987654321, 0x7fff0000, 0x80000001};
        for (int seed : seeds) {
            changesNothing("44 seed " + seed, x -> x.years(seed, 60));
            for (int n : new int[] {1, 2, 3, 59, 60}) {
                for (int kind = 0; kind < 4; kind++) {
                    BargesByBreath drawn = drawnWorld(kind);
                    doYears(drawn, seed, n);
                    BargesByBreath asked = drawnWorld(kind);
                    tells("44 seed " + seed + ", n " + n, asked, asked.years(seed, n), Integer.bitCount(drawn.count(4)),
                            Integer.bitCount(drawn.count(5)), drawn.count(6));
                }
            }
        }
    }

    private static void yearsOfNobody() {
        BargesByBreath x = new BargesByBreath();
        tells("44 without barges", x, x.years(7, 60), 0, 0, 0);
        int hours = 0;
        for (int seed = -50; seed < 50; seed++) {
            r = seed;
            boolean hour = false;
            for (int i = 0; i < 2; i++) {
                hour |= draw(4) < 2;
            }
            hours += hour ? 1 : 0;
            BargesByBreath y = world("....", "3+0", "");
            tells("44 without PASSENGERS no DRAWS more, seed " + seed, y, y.years(seed, 2), hour ? 1 : 0, 0, 0);
        }
        is("44 the seeds tell both", hours > 10 && hours < 90, true);
    }

    // ---- 45, 46

    private static void keeping() {
        for (int i : new int[] {-1, 2, LEAST, MOST}) {
            refused("45 number " + i, 0, x -> x.keep(i) ? 1 : 0);
        }
        for (int i = 0; i <= 1; i++) {
            BargesByBreath x = fullWorld();
            BargesByBreath before = fullWorld();
            is("45 number " + i, x.keep(i), true);
            alike("45 nothing else changes", x, before);
            is("45 what can be undone stays", x.undo(), 2);
            x.wakes(2);
            is("45 the other number is as it was", x.again(1 - i), true);
            before.again(1 - i);
            alike("45 the other number is as it was", x, before);
            BargesByBreath kept = fullWorld();
            is("45 kept", x.again(i), true);
            kept.keep(i);
            kept.again(i);
            alike("45 as it was when it was kept", x, kept);
        }
        BargesByBreath nobody = new BargesByBreath();
        is("45 nothing is kept", nobody.keep(0), true);
        nobody.hours(5);
        is("46 nothing comes back", nobody.again(0), true);
        is("46 HOUR", nobody.count(3), 0);
    }

    private static void againRefused() {
        for (int i : new int[] {-1, 2, LEAST, MOST}) {
            refused("46 number " + i, 0, x -> x.again(i) ? 1 : 0);
        }
        for (int i = 0; i <= 1; i++) {
            int number = i;
            Maker other = () -> {
                BargesByBreath x = world("....", "0+0", "90a;50s");
                x.keep(1 - number);
                x.hours(1);
                return say(x, "b");
            };
            refused("46 nothing kept under " + i, other, 0, x -> x.again(number) ? 1 : 0);
            String[] texts = {"..b.4...b.", "7+0", "10a"};
            for (int kind = 0; kind < 3; kind++) {
                BargesByBreath x = say(fullWorld(), texts[kind]);
                is("46 came", kind == 0 ? x.canal() : kind == 1 ? x.barges() : x.passengers(), kind == 0 ? 10 : 1);
                is("46 THE CANAL, BARGES or PASSENGERS came since", x.again(i), false);
                is("46 kept again", x.keep(i), true);
                is("46 it is as it was kept", x.again(i), true);
                is("46 the other one not", x.again(1 - i), false);
            }
            BargesByBreath x = fullWorld();
            say(x, "").canal();
            say(x, "").barges();
            say(x, "").passengers();
            say(x, "x").canal();
            say(x, "x").barges();
            say(x, "x").passengers();
            say(x, "b").rule();
            x.sheet(3, 0, 0, 0);
            is("46 none of these came", x.again(i), true);
        }
    }

    private static void againBrings() {
        Maker maker = () -> say(world("..b.....", "1+2;6-0", "90a;51s", "b/2"), "l");
        BargesByBreath x = maker.make();
        is("45 kept", x.keep(0), true);
        x.hours(3);
        x.turnsRound(0);
        x.loads(1, 9);
        x.wakes(1);
        x.sheet(2, 2, 1, 0);
        is("46 as it was", x.again(0), true);
        BargesByBreath twin = maker.make();
        x.fits();
        twin.fits();
        alike("46 all of barges and of PASSENGERS, HOUR", x, twin);
        is("46 nothing can be undone", x.undo(), -1);
        BargesByBreath y = world("....", "2+0;1+0", "90a;51a");
        y.keep(1);
        y.changes(0, 1);
        y.hours(1);
        is("46 THERE", y.count(4), 0);
        y.again(1);
        is("46 who is aboard", y.barge(0, 6), 1);
        y.hours(1);
        is("46 it is THERE", y.count(4), 1);
        y.keep(0);
        y.again(1);
        is("46 it is not THERE", y.count(4), 0);
        y.again(0);
        is("46 it is THERE", y.count(4), 1);
        y.heard(0, 9);
        say(y, "0").rule();
        say(y, "ab");
        y.later(0, 0);
        y.again(1);
        is("46 what was heard stays", y.count(8), 1);
        is("46 THE RULE stays", y.passenger(0, 4), 0);
        is("46 THE TEXT stays", y.count(11), 2);
        rowIs("46 the ROW stays", y, 3, 2);
    }

    // ---- 47, 48

    private static void counts() {
        for (int what : new int[] {-1, 12, LEAST, MOST}) {
            refused("47 what " + what, -1, x -> x.count(what));
        }
        BargesByBreath x = world(many(".", 30), "0-9;29+9;7+9;8+9", lines("90a", 9), "0");
        x.breath(0);
        for (int i = 0; i < 14; i++) {
            x.wakes(8);
        }
        x.hours(60);
        for (int i = 0; i < 13; i++) {
            x.heard(0, 1);
        }
        x.breath(0);
        for (int i = 0; i < 21; i++) {
            x.sign(0);
        }
        int[] full = {30, 4, 9, 60, 0b0011, 0b111111111, 81, 36, 12, 12, 9, 80};
        for (int what = 0; what < full.length; what++) {
            is("47 full: count " + what, x.count(what), full[what]);
        }
        BargesByBreath y = new BargesByBreath();
        int[] empty = {4, 0, 0, 0, 0, 0, 0, 0, 0, 0, 0, 0};
        for (int what = 0; what < empty.length; what++) {
            is("47 empty: count " + what, y.count(what), empty[what]);
        }
        changesNothing("47", z -> z.count(4));
    }

    private static void rows() {
        for (int i : new int[] {-1, 3, LEAST, MOST}) {
            throwsNone("48 number " + i + " of 3", Checks::fullWorld, x -> x.row(i));
        }
        BargesByBreath x = fullWorld();
        is("48 three", x.count(10), 3);
        is("48 the first is the barge's CELL", x.row(0), x.later(0, 3));
        x.breath(0);
        is("48 the last of four", x.row(3), x.passenger(3, 3));
        isNone("48 a fifth", () -> x.row(4));
        x.fits();
        isNone("48 a second of one", () -> x.row(1));
        BargesByBreath nobody = new BargesByBreath();
        isNone("48 of nothing", () -> nobody.row(0));
        nobody.breath(3);
        isNone("48 of an empty ROW", () -> nobody.row(0));
        BargesByBreath eight = sleepers(8);
        eight.dozes(2, 8, 1);
        is("48 more than an int", eight.row(1), 10000000000000000L);
    }

    /** Calls that say nothing of the ROW, or tell none, leave it as it was told last. */
    private static void rowStays() {
        BargesByBreath x = fullWorld();
        x.breath(0);
        long[] due = new long[4];
        for (int i = 0; i < 4; i++) {
            due[i] = x.row(i);
        }
        x.sign(0);
        x.end(0);
        x.barge(0, 4);
        x.passenger(0, 4);
        x.sheet(2, 4, 1, 1);
        x.changes(0, 1);
        x.wakes(0);
        x.loads(0, 9);
        x.turnsRound(0);
        x.undo();
        x.onion(0, 1);
        x.heard(0, 1);
        x.forget();
        x.blows(9);
        x.keep(0);
        x.again(0);
        x.count(4);
        say(x, "b").rule();
        rowIs("48 these tell no numbers", x, due);
        x.hours(61);
        x.later(3, 0);
        x.arrives(3);
        x.stops(3);
        x.nearest(100);
        x.breath(100);
        x.meets(0, 0);
        x.tires(4);
        x.near(10, 0);
        x.helps(3);
        x.hastens(3);
        x.rouses(0);
        x.seats(0);
        x.pairs(0);
        x.holds(0, 0);
        x.locks(3);
        x.yawns(4, 0);
        x.dozes(0, 0, 0);
        x.rests(10);
        x.years(0, 0);
        say(x, "x").journey();
        say(x, "x").law();
        rowIs("48 these are refused", x, due);
        say(x, "....").canal();
        say(x, "0+0").barges();
        say(x, "10a").passengers();
        rowIs("48 nor do those that read texts", x, due);
    }
}
