import java.util.NoSuchElementException;

/** Barges on a canal that are blown along by their passengers' breath. */
public final class BargesByBreath {
    public static final int NONE = -1;

    private static final int LATEST = 99;
    private static final int MOST_HOURS = 60;
    private static final int MOST_SEARCHED = 30;
    private static final int LAW_HOURS = 20;
    private static final int LAW_FAULT = -10000;

    private final Script script = new Script();
    private final Canal water = new Canal();
    private final Fleet now = new Fleet(water, new Rule(script));
    private final Fleet trial = new Fleet(water, now.rule);
    private final Past past = new Past();
    private final Gossip gossip = new Gossip();
    private final Draws draws = new Draws();
    private final Told told = new Told();
    private Rule spareRule = new Rule(script);

    public BargesByBreath() {
    }

    // ---- the canal, barges, passengers

    public int sign(int v) {
        return script.add(v) ? script.length : NONE;
    }

    public boolean end(int n) {
        return script.cut(n);
    }

    public int canal() {
        boolean good = water.readFrom(script);
        if (good) {
            now.empty();
            past.dropAll();
        }
        return answerOfReading(good, water.length);
    }

    public int barges() {
        int lines = now.draftBarges(script);
        int answer = answerOfReading(lines >= 0 && script.isReadWhole(), lines);
        if (answer > 0) {
            now.barges += answer;
            past.dropAll();
        }
        return answer;
    }

    public int passengers() {
        int lines = now.draftPassengers(script);
        int answer = answerOfReading(lines >= 0 && script.isReadWhole(), lines);
        if (answer > 0) {
            now.passengers += answer;
            past.dropAll();
        }
        return answer;
    }

    public int rule() {
        boolean good = spareRule.compile();
        if (good) {
            Rule former = now.rule;
            now.rule = spareRule;
            spareRule = former;
        }
        return answerOfReading(good, 0);
    }

    /** A call that has read THE TEXT empties it, whether it was good or not. */
    private int answerOfReading(boolean good, int answer) {
        int place = script.at;
        script.clear();
        return good ? answer : -1 - place;
    }

    public int barge(int barge, int what) throws NoSuchElementException {
        if (!now.hasBarge(barge)) {
            throw new NoSuchElementException("no such barge");
        }
        now.measure();
        switch (what) {
            case 0:
                return now.cell[barge];
            case 1:
                return now.heading[barge];
            case 2:
                return now.cargo[barge];
            case 3:
                return now.there[barge] ? 1 : 0;
            case 4:
                return now.wind[barge];
            case 5:
                return now.hold[barge];
            case 6:
                return now.aboardBits(barge);
            default:
                throw new NoSuchElementException("no such thing of a barge");
        }
    }

    public int passenger(int passenger, int what) throws NoSuchElementException {
        if (!now.hasPassenger(passenger)) {
            throw new NoSuchElementException("no such passenger");
        }
        now.measure();
        switch (what) {
            case 0:
                return now.lungs[passenger];
            case 1:
                return now.boat[passenger];
            case 2:
                return now.awake[passenger] ? 1 : 0;
            case 3:
                return now.air[passenger];
            case 4:
                return now.puff[passenger];
            default:
                throw new NoSuchElementException("no such thing of a passenger");
        }
    }

    public int sheet(int kind, int n, int f, int step) {
        if (!within(kind, 0, 3) || n > Fleet.MOST_PASSENGERS) {
            return NONE;
        }
        if (kind != 3 && n < 0) {
            return -2;
        }
        int entries = kind == 3 ? 0 : n;
        int entry = f;
        for (int p = 0; p < now.passengers; p++) {
            now.air[p] = p < entries ? Math.max(0, Math.min(now.lungs[p], narrowed(kind, entry))) : 0;
            entry += step;
        }
        return kind == 3 ? -3 : now.allAir();
    }

    private static int narrowed(int kind, int entry) {
        if (kind == 0) {
            return (byte) entry;
        }
        return kind == 1 ? (short) entry : entry;
    }

    private static boolean within(int v, int least, int most) {
        return v >= least && v <= most;
    }

    // ---- hours

    public int hours(int n) {
        if (!within(n, 0, MOST_HOURS)) {
            return NONE;
        }
        past.draft(now);
        now.went = 0;
        now.blown = 0;
        int answer = now.pass(n);
        if (n > 0) {
            past.enterDraft();
        }
        told.two(now.went, now.blown);
        return answer;
    }

    public int changes(int passenger, int barge) {
        past.draft(now);
        return entered(now.changeOver(passenger, barge));
    }

    public int wakes(int passenger) {
        past.draft(now);
        return entered(now.wakeOrSleep(passenger));
    }

    public int loads(int barge, int n) {
        past.draft(now);
        return entered(now.load(barge, n));
    }

    public int turnsRound(int barge) {
        past.draft(now);
        return entered(now.turn(barge));
    }

    /** What was as drafted can be brought back only if the call did something. */
    private int entered(int answer) {
        if (answer >= 0) {
            past.enterDraft();
        }
        return answer;
    }

    public int journey() {
        if (!script.readActs()) {
            return answerOfReading(false, 0);
        }
        past.draft(now);
        int done = 0;
        boolean failed = false;
        script.at = 0;
        for (int act = 0; act < Script.MOST_ACT_SIGNS && script.at < script.length && !failed; act++) {
            failed = doAct() < 0;
            done += failed ? 0 : 1;
        }
        if (done > 0) {
            past.enterDraft();
        }
        told.two(failed ? 1 : 0, now.hour);
        return answerOfReading(true, done);
    }

    private int doAct() {
        int kind = script.look();
        script.at++;
        int first = script.takeDigit();
        switch (kind) {
            case 'h':
                return now.pass(first);
            case 'c':
                return now.changeOver(first, script.takeDigit());
            case 'w':
                return now.wakeOrSleep(first);
            case 'l':
                return now.load(first, script.takeDigit());
            default:
                return now.turn(first);
        }
    }

    public int undo() {
        return past.bringBack(now) ? past.many : NONE;
    }

    // ---- later

    public int later(int barge, int n) {
        if (!now.hasBarge(barge) || !within(n, 0, LATEST)) {
            return NONE;
        }
        Fleet then = ahead(n);
        told.nothing();
        for (int b = 0; b < then.barges; b++) {
            told.add(then.cell[b]);
        }
        return then.cell[barge];
    }

    /** All as it is in n HOURS, on the trial fleet: a question changes nothing. */
    private Fleet ahead(int n) {
        trial.copy(now);
        trial.pass(n);
        return trial;
    }

    public int arrives(int barge) {
        if (!now.hasBarge(barge)) {
            return NONE;
        }
        trial.copy(now);
        int hours = trial.hoursTillThere(barge, LATEST);
        if (hours < 0) {
            return -2;
        }
        trial.measure();
        told.one(trial.hold[barge]);
        return hours;
    }

    public int stops(int barge) {
        if (!now.hasBarge(barge)) {
            return NONE;
        }
        trial.copy(now);
        for (int hour = 1; hour <= LATEST && !trial.there[barge]; hour++) {
            int former = trial.cell[barge];
            trial.pass(1);
            if (!trial.there[barge] && (trial.cell[barge] - former) * trial.stepOf(barge) <= 0) {
                told.one(trial.cell[barge]);
                return hour;
            }
        }
        return -2;
    }

    public int nearest(int n) {
        if (!within(n, 0, LATEST)) {
            return NONE;
        }
        if (now.barges < 2) {
            return -2;
        }
        Fleet then = ahead(n);
        int least = Integer.MAX_VALUE;
        for (int one = 0; one < then.barges; one++) {
            for (int other = one + 1; other < then.barges; other++) {
                int apart = then.apart(one, other);
                if (apart < least) {
                    least = apart;
                    told.two(one, other);
                }
            }
        }
        return least;
    }

    public int breath(int n) {
        if (!within(n, 0, LATEST)) {
            return NONE;
        }
        Fleet then = ahead(n);
        told.nothing();
        for (int p = 0; p < then.passengers; p++) {
            told.add(then.air[p]);
        }
        return then.allAir();
    }

    public int meets(int one, int other) {
        if (!now.hasBarge(one) || !now.hasBarge(other) || one == other) {
            return NONE;
        }
        trial.copy(now);
        for (int hour = 0; hour <= LATEST; hour++) {
            if (trial.apart(one, other) == 1) {
                told.two(trial.cell[one], trial.cell[other]);
                return hour;
            }
            trial.pass(1);
        }
        return -2;
    }

    public int tires(int passenger) {
        if (!now.hasPassenger(passenger)) {
            return NONE;
        }
        trial.copy(now);
        for (int hour = 0; hour <= LATEST; hour++) {
            trial.measure();
            if (trial.puff[passenger] == 0) {
                told.one(trial.air[passenger]);
                return hour;
            }
            trial.pass(1);
        }
        return -2;
    }

    public int near(int cell, int n) {
        if (!within(cell, 0, water.length - 1) || !within(n, 0, LATEST)) {
            return NONE;
        }
        if (now.barges == 0) {
            return -2;
        }
        Fleet then = ahead(n);
        int best = 0;
        for (int b = 1; b < then.barges; b++) {
            if (then.cellsFrom(b, cell) < then.cellsFrom(best, cell)) {
                best = b;
            }
        }
        told.one(then.cellsFrom(best, cell));
        return best;
    }

    // ---- whom to have change over

    public int helps(int barge) {
        if (!now.hasBarge(barge)) {
            return NONE;
        }
        int best = -2;
        int most = -1;
        for (int p = 0; p < now.passengers; p++) {
            if (now.boat[p] != barge) {
                tryWith(p, barge);
                trial.measure();
                if (trial.wind[barge] > most) {
                    best = p;
                    most = trial.wind[barge];
                }
            }
        }
        if (best >= 0) {
            now.measure();
            told.two(most, now.wind[barge]);
        }
        return best;
    }

    /** The trial fleet is as now, but for a passenger who is aboard another barge. */
    private void tryWith(int passenger, int barge) {
        trial.copy(now);
        trial.boat[passenger] = barge;
    }

    public int hastens(int barge) {
        if (!now.hasBarge(barge)) {
            return NONE;
        }
        if (now.there[barge]) {
            return -2;
        }
        int best = -2;
        int soonest = LATEST + 1;
        for (int p = 0; p < now.passengers; p++) {
            if (now.boat[p] != barge) {
                tryWith(p, barge);
                int hours = trial.hoursTillThere(barge, soonest - 1);
                if (hours >= 0) {
                    best = p;
                    soonest = hours;
                }
            }
        }
        if (best >= 0) {
            told.one(soonest);
        }
        return best;
    }

    public int rouses(int n) {
        if (!within(n, 1, MOST_SEARCHED)) {
            return NONE;
        }
        int best = -2;
        int most = -1;
        for (int p = 0; p < now.passengers; p++) {
            if (!now.awake[p]) {
                trial.copy(now);
                trial.awake[p] = true;
                int arrived = trial.pass(n);
                if (arrived > most) {
                    best = p;
                    most = arrived;
                }
            }
        }
        if (best >= 0) {
            told.two(most, ahead(n).arrived());
        }
        return best;
    }

    public int evens() {
        int awake = now.awakeBits();
        int all = now.airOf(awake);
        int least = Integer.MAX_VALUE;
        for (int part = 0; part <= awake; part++) {
            if ((part & ~awake) == 0) {
                int air = now.airOf(part);
                int differ = Math.abs(all - 2 * air);
                if (differ < least) {
                    least = differ;
                    told.two(part, air);
                }
            }
        }
        return least;
    }

    public int seats(int n) {
        return within(n, 1, MOST_SEARCHED) ? bestWithOne(n) : NONE;
    }

    public int pairs(int n) {
        if (!within(n, 1, MOST_SEARCHED)) {
            return NONE;
        }
        int best = bestWithOne(n);
        for (int p = 0; p < now.passengers; p++) {
            for (int b = 0; b < now.barges && best < now.barges; b++) {
                if (now.boat[p] != b) {
                    best = bestWithTwo(p, b, n, best);
                }
            }
        }
        return best;
    }

    /** Only what is better than all ahead of it counts, so the fewest and the least row stay. */
    private int bestWithOne(int n) {
        int best = ahead(n).arrived();
        told.nothing();
        for (int p = 0; p < now.passengers; p++) {
            for (int b = 0; b < now.barges && best < now.barges; b++) {
                if (now.boat[p] != b) {
                    tryWith(p, b);
                    int arrived = trial.pass(n);
                    if (arrived > best) {
                        best = arrived;
                        told.two(p, b);
                    }
                }
            }
        }
        return best;
    }

    private int bestWithTwo(int passenger, int barge, int n, int former) {
        int best = former;
        for (int p = passenger + 1; p < now.passengers; p++) {
            for (int b = 0; b < now.barges && best < now.barges; b++) {
                if (now.boat[p] != b) {
                    tryWith(passenger, barge);
                    trial.boat[p] = b;
                    int arrived = trial.pass(n);
                    if (arrived > best) {
                        best = arrived;
                        told.two(passenger, barge);
                        told.add(p);
                        told.add(b);
                    }
                }
            }
        }
        return best;
    }

    public int holds(int barge, int v) {
        if (!now.hasBarge(barge) || !within(v, 1, 99)) {
            return NONE;
        }
        int able = now.aboardBits(barge) & now.awakeBits();
        int fewest = Integer.MAX_VALUE;
        for (int part = 1; part <= able; part++) {
            if ((part & ~able) == 0 && Integer.bitCount(part) < fewest && now.airOf(part) >= v) {
                fewest = Integer.bitCount(part);
                told.one(part);
            }
        }
        return fewest == Integer.MAX_VALUE ? -2 : fewest;
    }

    public int locks(int barge) {
        if (!now.hasBarge(barge)) {
            return NONE;
        }
        now.measure();
        int step = now.stepOf(barge);
        int many = 0;
        int first = -1;
        int most = 0;
        for (int away = 1; away < water.length; away++) {
            int cell = now.cell[barge] + away * step;
            int lock = water.lockOn(cell);
            most = Math.max(most, lock);
            if (lock > now.hold[barge]) {
                first = many == 0 ? cell : first;
                many++;
            }
        }
        told.two(first, most);
        return many;
    }

    public int onion(int barge, int k) {
        if (!now.hasBarge(barge) || !within(k, 1, 9)) {
            return NONE;
        }
        trial.copy(now);
        int without = trial.hoursTillThere(barge, LATEST);
        trial.copy(now);
        trial.cargo[barge] = Math.min(Fleet.MOST_CARGO, now.cargo[barge] + k);
        int with = trial.hoursTillThere(barge, LATEST);
        return without < 0 || with < 0 ? -2 : 100 + with - without;
    }

    // ---- yawns, who it was

    public int yawns(int passenger, int v) {
        if (!now.hasPassenger(passenger) || !within(v, 0, 30)) {
            return NONE;
        }
        int yawning = 1 << passenger;
        int rounds = 0;
        for (int round = 0; round < now.passengers; round++) {
            int next = now.whoAreNear(yawning, v);
            rounds += next == yawning ? 0 : 1;
            yawning = next;
        }
        told.one(rounds);
        return yawning;
    }

    public int heard(int what, int v) {
        return gossip.hear(what, v) ? gossip.many : NONE;
    }

    public int forget() {
        int former = gossip.many;
        gossip.many = 0;
        return former;
    }

    public int fits() {
        int who = gossip.whoFit(now);
        told.one(Integer.bitCount(who));
        return who;
    }

    public int asks() {
        int who = gossip.whoFit(now);
        if (who == 0) {
            return -2;
        }
        int best = 0;
        int least = Integer.MAX_VALUE;
        for (int v = 1; v <= Fleet.MOST_LUNGS; v++) {
            int such = Integer.bitCount(who & now.lungsBits(v));
            int left = Math.max(such, Integer.bitCount(who) - such);
            if (left < least) {
                best = v;
                least = left;
            }
        }
        told.one(least);
        return best;
    }

    // ---- a game of breaths, sleepers

    public int blows(int n) {
        return within(n, 2, 60) ? Games.leastWinningPuff(n) : NONE;
    }

    public int dozes(int n, int k, int p) {
        if (!within(n, 1, 4) || !within(k, 0, 9) || !within(p, 0, 10)) {
            return NONE;
        }
        int sleepers = now.passengers - Integer.bitCount(now.awakeBits());
        if (n * sleepers > 16) {
            return -2;
        }
        long upper = Games.waysToWake(sleepers, k, n, p);
        long lower = Games.power(Games.power(10, n), sleepers);
        long shared = Games.commonDivisor(upper, lower);
        if (shared > 0) {
            told.two(upper / shared, lower / shared);
        }
        return 0;
    }

    // ---- rests, rules, years

    public int rests(int c) {
        if (!within(c, 0, 9)) {
            return NONE;
        }
        told.nothing();
        int many = 0;
        for (int x = 0; x <= Games.MOST_FARE; x++) {
            for (int y = 0; y <= Games.MOST_FARE; y++) {
                if (Games.isBestAgainst(x, y, c) && Games.isBestAgainst(y, x, c)) {
                    if (many == 0) {
                        told.two(x, y);
                    }
                    many++;
                }
            }
        }
        return many;
    }

    public int law() {
        int answer = answerOfReading(spareRule.compile(), 0);
        if (answer < 0) {
            return LAW_FAULT + 1 + answer;
        }
        int former = ahead(LAW_HOURS).arrived();
        trial.copy(now);
        trial.rule = spareRule;
        int other = trial.pass(LAW_HOURS);
        told.two(other, former);
        return other - former;
    }

    public int years(int seed, int n) {
        if (!within(n, 1, 60)) {
            return NONE;
        }
        trial.copy(now);
        draws.start(seed);
        for (int i = 0; i < n; i++) {
            int kind = draws.next(4);
            if (kind < 2) {
                trial.pass(1);
            } else if (trial.passengers > 0) {
                int who = draws.next(trial.passengers);
                if (kind == 2) {
                    trial.wakeOrSleep(who);
                } else {
                    trial.changeOver(who, draws.next(trial.barges));
                }
            }
        }
        told.two(Integer.bitCount(trial.awakeBits()), trial.allAir());
        return trial.arrived();
    }

    // ---- kept

    public boolean keep(int i) {
        return past.hold(i, now);
    }

    public boolean again(int i) {
        return past.restore(i, now);
    }

    public int count(int what) {
        switch (what) {
            case 0:
                return water.length;
            case 1:
                return now.barges;
            case 2:
                return now.passengers;
            case 3:
                return now.hour;
            case 4:
                return now.thereBits();
            case 5:
                return now.awakeBits();
            case 6:
                return now.allAir();
            case 7:
                return now.allCargo();
            case 8:
                return gossip.many;
            case 9:
                return past.many;
            case 10:
                return told.many;
            case 11:
                return script.length;
            default:
                return NONE;
        }
    }

    public long row(int i) throws NoSuchElementException {
        if (i < 0 || i >= told.many) {
            throw new NoSuchElementException("no such number");
        }
        return told.numbers[i];
    }

    /** THE TEXT, and how far the call that reads it has come; a fault is where it stands then. */
    private static final class Script {
        static final int MOST = 80;
        static final int MOST_ACT_SIGNS = 60;

        final char[] signs = new char[MOST];
        int length;
        int at;
        int bound;

        boolean add(int v) {
            if (length + 4 > MOST) {
                return false;
            }
            for (int shift = 24; shift >= 0; shift -= 8) {
                signs[length] = (char) ((v >>> shift) & 255);
                length++;
            }
            return true;
        }

        boolean cut(int n) {
            if (n < 0 || n > length) {
                return false;
            }
            length = n;
            return true;
        }

        void clear() {
            length = 0;
            at = 0;
            bound = 0;
        }

        /** Signs from most on are not read, so that a text that is too long has its fault there. */
        void open(int most) {
            at = 0;
            bound = Math.min(length, most);
        }

        int look() {
            return at < bound ? signs[at] : -1;
        }

        boolean take(int sign) {
            if (look() != sign) {
                return false;
            }
            at++;
            return true;
        }

        int takeDigit() {
            if (at >= bound || signs[at] < '0' || signs[at] > '9') {
                return -1;
            }
            at++;
            return signs[at - 1] - '0';
        }

        boolean isReadWhole() {
            return at == length;
        }

        boolean readActs() {
            open(MOST_ACT_SIGNS);
            while (at < bound) {
                int digits = digitsBehind(signs[at]);
                if (digits == 0) {
                    return false;
                }
                at++;
                for (int i = 0; i < digits; i++) {
                    if (takeDigit() < 0) {
                        return false;
                    }
                }
            }
            return isReadWhole();
        }

        private static int digitsBehind(int act) {
            switch (act) {
                case 'h':
                case 'w':
                case 't':
                    return 1;
                case 'c':
                case 'l':
                    return 2;
                default:
                    return 0;
            }
        }
    }

    /** THE CANAL. */
    private static final class Canal {
        static final int LEAST = 4;
        static final int MOST = 30;

        final char[] kinds = new char[MOST];
        int length = LEAST;

        Canal() {
            for (int i = 0; i < LEAST; i++) {
                kinds[i] = '.';
            }
        }

        boolean readFrom(Script script) {
            script.open(MOST);
            while (script.at < script.bound && canStand(script.signs[script.at])) {
                script.at++;
            }
            if (script.at < LEAST || !script.isReadWhole()) {
                return false;
            }
            length = script.length;
            for (int i = 0; i < length; i++) {
                kinds[i] = script.signs[i];
            }
            return true;
        }

        private static boolean canStand(int sign) {
            return sign == '.' || sign == 'b' || (sign >= '1' && sign <= '9');
        }

        boolean has(int cell) {
            return cell >= 0 && cell < length;
        }

        // These two look at the cell themselves, not by has(): calls go eight deep at most, and seats() is that far here.

        boolean isBend(int cell) {
            return cell >= 0 && cell < length && kinds[cell] == 'b';
        }

        /** How much a LOCK is of; 0 where there is none. */
        int lockOn(int cell) {
            if (cell < 0 || cell >= length || kinds[cell] < '1' || kinds[cell] > '9') {
                return 0;
            }
            return kinds[cell] - '0';
        }
    }

    /** A RULE, as steps on a stack: a number is itself, a letter -1 less its place, a sign below 0. */
    private static final class Rule {
        static final int MOST = 40;
        private static final int DEEPEST = 4;
        private static final char[] LETTERS = {'b', 'l', 'c', 'p', 'm', 'n'};
        private static final int HOUR_LETTER = -6;
        private static final int NEGATE = -7;

        private final Script script;
        private final int[] steps = new int[MOST];
        private final int[] stack = new int[MOST];
        private final int[] things = new int[LETTERS.length];
        private int many;
        private boolean hourly;

        Rule(Script script) {
            this.script = script;
        }

        /** False: the script stands at the fault, and this rule can't be used. */
        boolean compile() {
            many = 0;
            hourly = false;
            script.open(MOST);
            return script.length == 0 || (comparison(0) && script.isReadWhole());
        }

        private boolean comparison(int depth) {
            if (!sum(depth)) {
                return false;
            }
            int sign = script.look();
            if (sign != '<' && sign != '>' && sign != '=') {
                return true;
            }
            script.at++;
            return sum(depth) && emit(-sign);
        }

        private boolean sum(int depth) {
            boolean good = product(depth);
            for (int i = 0; i < MOST && good; i++) {
                int sign = script.look();
                if (sign != '+' && sign != '-') {
                    return true;
                }
                script.at++;
                good = product(depth) && emit(-sign);
            }
            return good;
        }

        private boolean product(int depth) {
            boolean good = thing(depth);
            for (int i = 0; i < MOST && good; i++) {
                int sign = script.look();
                if (sign != '*' && sign != '/') {
                    return true;
                }
                script.at++;
                good = thing(depth) && emit(-sign);
            }
            return good;
        }

        private boolean thing(int depth) {
            boolean negative = false;
            while (script.at < script.bound && script.signs[script.at] == '-') {
                negative = !negative;
                script.at++;
            }
            int sign = script.look();
            int letter = letterOf(sign);
            boolean good = false;
            if (letter < 0) {
                script.at++;
                good = emit(letter);
            } else if (sign == '(' && depth < DEEPEST) {
                script.at++;
                good = comparison(depth + 1) && script.take(')');
            } else if (sign >= '0' && sign <= '9') {
                good = number();
            }
            return good && (!negative || emit(NEGATE));
        }

        /** The step of a letter; 0 if the sign is none. */
        private static int letterOf(int sign) {
            for (int i = 0; i < LETTERS.length; i++) {
                if (LETTERS[i] == sign) {
                    return -1 - i;
                }
            }
            return 0;
        }

        private boolean number() {
            int value = 0;
            int digit = script.takeDigit();
            for (int i = 0; i < 3 && digit >= 0; i++) {
                value = value * 10 + digit;
                digit = i < 2 ? script.takeDigit() : -1;
            }
            return emit(value);
        }

        private boolean emit(int step) {
            if (many >= MOST) {
                return false;
            }
            steps[many] = step;
            many++;
            hourly |= step == HOUR_LETTER;
            return true;
        }

        boolean usesHour() {
            return hourly;
        }

        int value(int breath, int lungs, int cargo, int aboard, int met, int clock) {
            if (many == 0) {
                return (breath + 1) / 2;
            }
            things[0] = breath;
            things[1] = lungs;
            things[2] = cargo;
            things[3] = aboard;
            things[4] = met;
            things[5] = clock;
            int top = 0;
            for (int i = 0; i < many; i++) {
                int step = steps[i];
                if (step > NEGATE) {
                    stack[top] = step >= 0 ? step : things[-1 - step];
                    top++;
                } else if (step == NEGATE && top > 0) {
                    stack[top - 1] = -stack[top - 1];
                } else if (top > 1) {
                    top--;
                    stack[top - 1] = joined(-step, stack[top - 1], stack[top]);
                }
            }
            return stack[0];
        }

        private static int joined(int sign, int left, int right) {
            switch (sign) {
                case '<':
                    return left < right ? 1 : 0;
                case '>':
                    return left > right ? 1 : 0;
                case '=':
                    return left == right ? 1 : 0;
                case '+':
                    return left + right;
                case '-':
                    return left - right;
                case '*':
                    return left * right;
                default:
                    return right == 0 ? 0 : left / right;
            }
        }
    }

    /** BARGES, PASSENGERS and HOUR, and what an HOUR does with them. */
    private static final class Fleet {
        static final int MOST_BARGES = 4;
        static final int MOST_PASSENGERS = 9;
        static final int MOST_LUNGS = 9;
        static final int MOST_CARGO = 9;
        static final int MOST_STEPS = 3;
        static final int MOST_BARGE_SIGNS = 19;
        static final int MOST_PASSENGER_SIGNS = 35;
        /** Numbers that save() writes. */
        static final int SAVED = 1 + 4 * MOST_BARGES + 3 * MOST_PASSENGERS;

        final Canal canal;
        Rule rule;
        int hour;
        int went;
        int blown;

        int barges;
        final int[] cell = new int[MOST_BARGES];
        final int[] heading = new int[MOST_BARGES];
        final int[] cargo = new int[MOST_BARGES];
        final boolean[] there = new boolean[MOST_BARGES];
        /** These four and puff are as measure() found them. */
        final int[] wind = new int[MOST_BARGES];
        final int[] hold = new int[MOST_BARGES];
        private final int[] crew = new int[MOST_BARGES];
        private final int[] met = new int[MOST_BARGES];

        int passengers;
        final int[] lungs = new int[MOST_PASSENGERS];
        final int[] boat = new int[MOST_PASSENGERS];
        final boolean[] awake = new boolean[MOST_PASSENGERS];
        final int[] air = new int[MOST_PASSENGERS];
        final int[] puff = new int[MOST_PASSENGERS];

        Fleet(Canal canal, Rule rule) {
            this.canal = canal;
            this.rule = rule;
        }

        void empty() {
            barges = 0;
            passengers = 0;
            hour = 0;
        }

        void copy(Fleet other) {
            rule = other.rule;
            hour = other.hour;
            barges = other.barges;
            passengers = other.passengers;
            System.arraycopy(other.cell, 0, cell, 0, MOST_BARGES);
            System.arraycopy(other.heading, 0, heading, 0, MOST_BARGES);
            System.arraycopy(other.cargo, 0, cargo, 0, MOST_BARGES);
            System.arraycopy(other.lungs, 0, lungs, 0, MOST_PASSENGERS);
            System.arraycopy(other.boat, 0, boat, 0, MOST_PASSENGERS);
            System.arraycopy(other.air, 0, air, 0, MOST_PASSENGERS);
            for (int b = 0; b < MOST_BARGES; b++) {
                there[b] = other.there[b];
            }
            for (int p = 0; p < MOST_PASSENGERS; p++) {
                awake[p] = other.awake[p];
            }
        }

        void save(int[] store, int from) {
            if (from < 0 || from > store.length - SAVED) {
                return;
            }
            int at = from;
            store[at++] = hour;
            for (int b = 0; b < MOST_BARGES; b++) {
                store[at++] = cell[b];
                store[at++] = heading[b];
                store[at++] = cargo[b];
                store[at++] = there[b] ? 1 : 0;
            }
            for (int p = 0; p < MOST_PASSENGERS; p++) {
                store[at++] = boat[p];
                store[at++] = awake[p] ? 1 : 0;
                store[at++] = air[p];
            }
        }

        void bring(int[] store, int from) {
            if (from < 0 || from > store.length - SAVED) {
                return;
            }
            int at = from;
            hour = store[at++];
            for (int b = 0; b < MOST_BARGES; b++) {
                cell[b] = store[at++];
                heading[b] = store[at++];
                cargo[b] = store[at++];
                there[b] = store[at++] == 1;
            }
            for (int p = 0; p < MOST_PASSENGERS; p++) {
                boat[p] = store[at++];
                awake[p] = store[at++] == 1;
                air[p] = store[at++];
            }
        }

        // -- told as texts; a draft stands behind those that are there, till it is counted

        /** How many LINES; below 0: the script stands at the fault. */
        int draftBarges(Script script) {
            script.open(MOST_BARGE_SIGNS);
            if (script.length == 0) {
                return 0;
            }
            for (int b = barges; b < MOST_BARGES; b++) {
                if (!draftBarge(script, b)) {
                    return -1;
                }
                if (script.look() != ';') {
                    return b + 1 - barges;
                }
                script.at++;
            }
            return -1;
        }

        private boolean draftBarge(Script script, int b) {
            int place = script.takeDigit();
            if (place < 0) {
                return false;
            }
            int second = script.takeDigit();
            if (second >= 0) {
                place = place * 10 + second;
            }
            if (!canal.has(place) || canal.lockOn(place) > 0 || bargeOn(place, b) >= 0) {
                script.at--;
                return false;
            }
            int sign = script.look();
            if (sign != '+' && sign != '-') {
                return false;
            }
            script.at++;
            cell[b] = place;
            heading[b] = sign == '+' ? 0 : 1;
            cargo[b] = script.takeDigit();
            there[b] = false;
            return cargo[b] >= 0;
        }

        int draftPassengers(Script script) {
            script.open(MOST_PASSENGER_SIGNS);
            if (script.length == 0) {
                return 0;
            }
            for (int p = passengers; p < MOST_PASSENGERS; p++) {
                if (!draftPassenger(script, p)) {
                    return -1;
                }
                if (script.look() != ';') {
                    return p + 1 - passengers;
                }
                script.at++;
            }
            return -1;
        }

        private boolean draftPassenger(Script script, int p) {
            int size = script.look() == '0' ? -1 : script.takeDigit();
            if (size < 0) {
                return false;
            }
            int place = script.look() >= '0' + barges ? -1 : script.takeDigit();
            int sign = script.look();
            if (place < 0 || (sign != 'a' && sign != 's')) {
                return false;
            }
            script.at++;
            lungs[p] = size;
            boat[p] = place;
            awake[p] = sign == 'a';
            air[p] = size;
            return true;
        }

        // -- how all is

        boolean hasBarge(int b) {
            return b >= 0 && b < barges;
        }

        boolean hasPassenger(int p) {
            return p >= 0 && p < passengers;
        }

        int stepOf(int b) {
            return heading[b] == 0 ? 1 : -1;
        }

        /** Of the first many barges the one on a CELL, or -1. */
        private int bargeOn(int place, int many) {
            for (int b = 0; b < many; b++) {
                if (cell[b] == place) {
                    return b;
                }
            }
            return -1;
        }

        int cellsFrom(int b, int place) {
            return Math.abs(cell[b] - place);
        }

        int apart(int one, int other) {
            return cellsFrom(one, cell[other]);
        }

        int aboardBits(int b) {
            int bits = 0;
            for (int p = 0; p < passengers; p++) {
                bits |= boat[p] == b ? 1 << p : 0;
            }
            return bits;
        }

        int awakeBits() {
            int bits = 0;
            for (int p = 0; p < passengers; p++) {
                bits |= awake[p] ? 1 << p : 0;
            }
            return bits;
        }

        int thereBits() {
            int bits = 0;
            for (int b = 0; b < barges; b++) {
                bits |= there[b] ? 1 << b : 0;
            }
            return bits;
        }

        int arrived() {
            return Integer.bitCount(thereBits());
        }

        /** Who has LUNGS of v or more. */
        int lungsBits(int v) {
            int bits = 0;
            for (int p = 0; p < passengers; p++) {
                bits |= lungs[p] >= v ? 1 << p : 0;
            }
            return bits;
        }

        int airOf(int who) {
            int sum = 0;
            for (int p = 0; p < passengers; p++) {
                sum += (who >> p & 1) == 1 ? air[p] : 0;
            }
            return sum;
        }

        int allAir() {
            return airOf(-1);
        }

        int allCargo() {
            int sum = 0;
            for (int b = 0; b < barges; b++) {
                sum += cargo[b];
            }
            return sum;
        }

        /** Who is v CELLS or fewer from one of these (they themselves, too). */
        int whoAreNear(int these, int v) {
            int bits = these;
            for (int p = 0; p < passengers; p++) {
                for (int q = 0; q < passengers; q++) {
                    if ((these >> q & 1) == 1 && apart(boat[p], boat[q]) <= v) {
                        bits |= 1 << p;
                    }
                }
            }
            return bits;
        }

        /** PUFFS, WINDS and HOLDS as all is now. */
        void measure() {
            for (int b = 0; b < barges; b++) {
                wind[b] = -cargo[b];
                hold[b] = 0;
                crew[b] = 0;
                met[b] = bargeOn(cell[b] + stepOf(b), barges) >= 0 ? 1 : 0;
            }
            for (int p = 0; p < passengers; p++) {
                crew[boat[p]]++;
            }
            for (int p = 0; p < passengers; p++) {
                int b = boat[p];
                puff[p] = 0;
                if (awake[p]) {
                    int value = rule.value(air[p], lungs[p], cargo[b], crew[b], met[b], hour % 12);
                    puff[p] = Math.max(0, Math.min(air[p], value));
                    hold[b] += air[p];
                }
                wind[b] += awake[p] ? puff[p] : -1;
            }
            for (int b = 0; b < barges; b++) {
                wind[b] = Math.max(0, wind[b]);
            }
        }

        // -- what is done

        /** How many barges are THERE then. */
        int pass(int hours) {
            for (int i = 0; i < hours; i++) {
                if (!passOne() && !rule.usesHour()) {
                    // All later HOURS are like this one.
                    hour += hours - 1 - i;
                    break;
                }
            }
            return arrived();
        }

        /** False: nothing was other than ahead of it, but HOUR. */
        private boolean passOne() {
            measure();
            int former = went;
            boolean changed = false;
            for (int b = 0; b < barges; b++) {
                if (!there[b]) {
                    go(b);
                }
            }
            for (int b = 0; b < barges; b++) {
                boolean arrives = !there[b] && !canal.has(cell[b] + stepOf(b));
                there[b] |= arrives;
                changed |= arrives;
            }
            changed |= breathe();
            hour++;
            return changed || went != former;
        }

        private void go(int b) {
            int times = Math.min(MOST_STEPS, (wind[b] + 2) / 3);
            int step = stepOf(b);
            for (int i = 0; i < times; i++) {
                int next = cell[b] + step;
                if (!canal.has(next) || canal.lockOn(next) > hold[b]) {
                    return;
                }
                int other = bargeOn(next, barges);
                if (other >= 0 && !blowBack(b, other)) {
                    return;
                }
                cell[b] = next;
                went++;
            }
        }

        private boolean blowBack(int b, int other) {
            int behind = cell[other] + stepOf(b);
            if (there[other] || heading[other] == heading[b] || wind[other] >= wind[b]) {
                return false;
            }
            if (!canal.has(behind) || canal.lockOn(behind) > 0 || bargeOn(behind, barges) >= 0) {
                return false;
            }
            cell[other] = behind;
            blown++;
            return true;
        }

        private boolean breathe() {
            boolean changed = false;
            for (int p = 0; p < passengers; p++) {
                int left = air[p] + 1;
                if (awake[p]) {
                    left += (canal.isBend(cell[boat[p]]) ? 1 : 0) - puff[p];
                }
                left = Math.min(lungs[p], left);
                changed |= left != air[p];
                air[p] = left;
            }
            return changed;
        }

        /** How many HOURS till a barge is THERE, -1 if it is in none of the most; all is as it is then. */
        int hoursTillThere(int b, int most) {
            for (int hours = 0; hours < most && !there[b]; hours++) {
                pass(1);
                if (there[b]) {
                    return hours + 1;
                }
            }
            return there[b] ? 0 : -1;
        }

        int changeOver(int p, int b) {
            if (!hasPassenger(p) || !hasBarge(b)) {
                return NONE;
            }
            if (boat[p] == b) {
                return -2;
            }
            if (apart(boat[p], b) != 1) {
                return -3;
            }
            boat[p] = b;
            return Integer.bitCount(aboardBits(b));
        }

        int wakeOrSleep(int p) {
            if (!hasPassenger(p)) {
                return NONE;
            }
            awake[p] = !awake[p];
            return Integer.bitCount(awakeBits());
        }

        int load(int b, int n) {
            if (!hasBarge(b) || n < 0 || n > MOST_CARGO) {
                return NONE;
            }
            int former = cargo[b];
            cargo[b] = n;
            return former == n ? -2 : 10 + former;
        }

        int turn(int b) {
            if (!hasBarge(b)) {
                return NONE;
            }
            heading[b] = 1 - heading[b];
            there[b] = false;
            return heading[b];
        }
    }

    /** What undo() and again() bring back. */
    private static final class Past {
        static final int MOST = 12;
        /** One more, so that a draft that is not entered costs none of those that can be undone. */
        static final int SLOTS = MOST + 1;
        static final int MOST_HELD = 2;

        private final int[] store = new int[(SLOTS + MOST_HELD) * Fleet.SAVED];
        private final boolean[] held = new boolean[MOST_HELD];
        private int next;
        int many;

        void draft(Fleet fleet) {
            fleet.save(store, next * Fleet.SAVED);
        }

        void enterDraft() {
            next = (next + 1) % SLOTS;
            many = Math.min(MOST, many + 1);
        }

        boolean bringBack(Fleet fleet) {
            if (many == 0) {
                return false;
            }
            many--;
            next = (next + SLOTS - 1) % SLOTS;
            fleet.bring(store, next * Fleet.SAVED);
            return true;
        }

        /** What is kept is of the BARGES and PASSENGERS that there were: it goes when others come. */
        void dropAll() {
            many = 0;
            for (int i = 0; i < MOST_HELD; i++) {
                held[i] = false;
            }
        }

        boolean hold(int i, Fleet fleet) {
            if (i < 0 || i >= MOST_HELD) {
                return false;
            }
            fleet.save(store, (SLOTS + i) * Fleet.SAVED);
            held[i] = true;
            return true;
        }

        boolean restore(int i, Fleet fleet) {
            if (i < 0 || i >= MOST_HELD || !held[i]) {
                return false;
            }
            fleet.bring(store, (SLOTS + i) * Fleet.SAVED);
            many = 0;
            return true;
        }
    }

    /** What was heard of the one who laughed. */
    private static final class Gossip {
        static final int MOST = 12;
        private static final int[] LEAST_OF = {1, 0, 0, 0, 0};
        private static final int[] MOST_OF = {9, 3, 1, 9, 9};

        private final int[] whats = new int[MOST];
        private final int[] values = new int[MOST];
        int many;

        boolean hear(int what, int v) {
            if (many >= MOST || what < 0 || what >= LEAST_OF.length) {
                return false;
            }
            if (v < LEAST_OF[what] || v > MOST_OF[what]) {
                return false;
            }
            whats[many] = what;
            values[many] = v;
            many++;
            return true;
        }

        int whoFit(Fleet fleet) {
            fleet.measure();
            int bits = 0;
            for (int p = 0; p < fleet.passengers; p++) {
                bits |= fitsAll(fleet, p) ? 1 << p : 0;
            }
            return bits;
        }

        private boolean fitsAll(Fleet fleet, int p) {
            for (int i = 0; i < many; i++) {
                if (!fitsOne(fleet, p, whats[i], values[i])) {
                    return false;
                }
            }
            return true;
        }

        private static boolean fitsOne(Fleet fleet, int p, int what, int v) {
            switch (what) {
                case 0:
                    return fleet.lungs[p] >= v;
                case 1:
                    return fleet.boat[p] == v;
                case 2:
                    return fleet.awake[p] == (v == 1);
                case 3:
                    return fleet.air[p] <= v;
                default:
                    return fleet.puff[p] == v;
            }
        }
    }

    /** Reckoning that needs no barges. */
    private static final class Games {
        static final int MOST_FARE = 9;

        /**
         * Twice as many as the other one did is Fibonacci's game: one wins by the least part of n
         * as a sum of Fibonacci numbers that are not neighbours, unless n is one of them itself.
         */
        static int leastWinningPuff(int n) {
            int left = n;
            int part = 0;
            for (int i = 0; i < 10 && left > 0; i++) {
                part = greatestFibonacci(left);
                left -= part;
            }
            return part == n ? 0 : part;
        }

        private static int greatestFibonacci(int most) {
            int former = 1;
            int latest = 1;
            for (int i = 0; i < 20 && former + latest <= most; i++) {
                int sum = former + latest;
                former = latest;
                latest = sum;
            }
            return latest;
        }

        static long power(long base, int times) {
            long product = 1;
            for (int i = 0; i < times; i++) {
                product *= base;
            }
            return product;
        }

        /** Of 10 to the (hours times sleepers) equal ways those in which k or more wake. */
        static long waysToWake(int sleepers, int k, int hours, int tenths) {
            long sleepsOn = power(10 - tenths, hours);
            long wakesUp = power(10, hours) - sleepsOn;
            long sum = 0;
            long choices = 1;
            for (int woken = 0; woken <= sleepers; woken++) {
                if (woken >= k) {
                    sum += choices * power(wakesUp, woken) * power(sleepsOn, sleepers - woken);
                }
                choices = choices * (sleepers - woken) / (woken + 1);
            }
            return sum;
        }

        static long commonDivisor(long one, long other) {
            long a = one;
            long b = other;
            for (int i = 0; i < 200 && b != 0; i++) {
                long rest = a % b;
                a = b;
                b = rest;
            }
            return a;
        }

        /** Whether no other fare than mine gains more against that of the other one. */
        static boolean isBestAgainst(int mine, int other, int c) {
            for (int fare = 0; fare <= MOST_FARE; fare++) {
                if (gain(fare, other, c) > gain(mine, other, c)) {
                    return false;
                }
            }
            return true;
        }

        private static int gain(int mine, int other, int c) {
            if (mine == other) {
                return (mine - c) / 2;
            }
            return mine < other ? mine - c : 0;
        }
    }

    /** DRAWS from a seed. */
    private static final class Draws {
        private int r;

        void start(int seed) {
            r = seed;
        }

        int next(int n) {
            r = r * 1103515245 + 12345;
            return n > 0 ? (r >>> 16) % n : 0;
        }
    }

    /** The ROW. */
    private static final class Told {
        final long[] numbers = new long[Fleet.MOST_PASSENGERS];
        int many;

        void nothing() {
            many = 0;
        }

        void add(long number) {
            if (many < numbers.length) {
                numbers[many] = number;
                many++;
            }
        }

        void one(long number) {
            many = 0;
            add(number);
        }

        void two(long first, long second) {
            many = 0;
            add(first);
            add(second);
        }
    }
}
