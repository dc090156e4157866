import java.util.ArrayDeque;
import java.util.ArrayList;
import java.util.List;
import java.util.NoSuchElementException;
import java.util.TreeSet;
import java.math.BigInteger;

/**
 * The document told a second time, as slowly and plainly as can be: texts are looked at sign by
 * sign, the rule is read anew for each puff, games are played to their ends.
 */
final class Model {
    static final class Barge {
        int cell, heading, cargo;
        boolean there;

        Barge twin() {
            Barge t = new Barge();
            t.cell = cell;
            t.heading = heading;
            t.cargo = cargo;
            t.there = there;
            return t;
        }

        int dir() {
            return heading == 0 ? 1 : -1;
        }
    }

    static final class Passenger {
        int lungs, barge, breath;
        boolean awake;

        Passenger twin() {
            Passenger t = new Passenger();
            t.lungs = lungs;
            t.barge = barge;
            t.breath = breath;
            t.awake = awake;
            return t;
        }
    }

    static final class World {
        String canal = "....";
        String rule = "";
        List<Barge> barges = new ArrayList<>();
        List<Passenger> passengers = new ArrayList<>();
        int hour;
        int went, blown;

        World twin() {
            World w = new World();
            w.canal = canal;
            w.rule = rule;
            w.hour = hour;
            for (Barge b : barges) w.barges.add(b.twin());
            for (Passenger p : passengers) w.passengers.add(p.twin());
            return w;
        }

        int lock(int cell) {
            return Character.isDigit(canal.charAt(cell)) ? canal.charAt(cell) - '0' : 0;
        }

        boolean inside(int cell) {
            return cell >= 0 && cell < canal.length();
        }

        Barge on(int cell) {
            for (Barge b : barges) if (b.cell == cell) return b;
            return null;
        }

        int aboard(int barge) {
            int n = 0;
            for (Passenger p : passengers) if (p.barge == barge) n++;
            return n;
        }

        int puff(Passenger p) {
            if (!p.awake) return 0;
            Barge b = barges.get(p.barge);
            int v = rule.isEmpty() ? (p.breath + 1) / 2 : new Formula(rule, letter -> switch (letter) {
                case 'b' -> p.breath;
                case 'l' -> p.lungs;
                case 'c' -> b.cargo;
                case 'p' -> aboard(p.barge);
                case 'm' -> on(b.cell + b.dir()) != null ? 1 : 0;
                default -> hour % 12;
            }).value();
            return v < 0 ? 0 : Math.min(v, p.breath);
        }

        int wind(int barge) {
            int w = -barges.get(barge).cargo;
            for (Passenger p : passengers) if (p.barge == barge) w += p.awake ? puff(p) : -1;
            return Math.max(w, 0);
        }

        int hold(int barge) {
            int h = 0;
            for (Passenger p : passengers) if (p.barge == barge && p.awake) h += p.breath;
            return h;
        }

        int there() {
            int n = 0;
            for (Barge b : barges) if (b.there) n++;
            return n;
        }

        int allBreath() {
            int n = 0;
            for (Passenger p : passengers) n += p.breath;
            return n;
        }

        int awakeBits() {
            int bits = 0;
            for (int i = 0; i < passengers.size(); i++) if (passengers.get(i).awake) bits |= 1 << i;
            return bits;
        }

        World hours(int n) {
            for (int i = 0; i < n; i++) anHour();
            return this;
        }

        void anHour() {
            int[] winds = new int[barges.size()];
            int[] holds = new int[barges.size()];
            int[] puffs = new int[passengers.size()];
            for (int i = 0; i < winds.length; i++) {
                winds[i] = wind(i);
                holds[i] = hold(i);
            }
            for (int i = 0; i < puffs.length; i++) puffs[i] = puff(passengers.get(i));
            for (int i = 0; i < winds.length; i++) {
                Barge b = barges.get(i);
                if (b.there) continue;
                int times = Math.min(3, winds[i] / 3 + (winds[i] % 3 == 0 ? 0 : 1));
                for (int t = 0; t < times; t++) {
                    int next = b.cell + b.dir();
                    if (!inside(next)) break;
                    if (lock(next) != 0 && lock(next) > holds[i]) break;
                    Barge o = on(next);
                    if (o != null) {
                        int behind = next + b.dir();
                        boolean can = !o.there && o.heading != b.heading && winds[barges.indexOf(o)] < winds[i]
                                && inside(behind) && lock(behind) == 0 && on(behind) == null;
                        if (!can) break;
                        o.cell = behind;
                        blown++;
                    }
                    b.cell = next;
                    went++;
                }
            }
            for (Barge b : barges) {
                if (b.heading == 0 && b.cell == canal.length() - 1) b.there = true;
                if (b.heading == 1 && b.cell == 0) b.there = true;
            }
            for (int i = 0; i < puffs.length; i++) {
                Passenger p = passengers.get(i);
                int more = 1;
                if (p.awake) {
                    p.breath -= puffs[i];
                    if (canal.charAt(barges.get(p.barge).cell) == 'b') more = 2;
                }
                p.breath = Math.min(p.lungs, p.breath + more);
            }
            hour++;
        }

        int changes(int p, int b) {
            if (p < 0 || p >= passengers.size() || b < 0 || b >= barges.size()) return -1;
            Passenger who = passengers.get(p);
            if (who.barge == b) return -2;
            if (Math.abs(barges.get(who.barge).cell - barges.get(b).cell) != 1) return -3;
            who.barge = b;
            return aboard(b);
        }

        int wakes(int p) {
            if (p < 0 || p >= passengers.size()) return -1;
            passengers.get(p).awake ^= true;
            return Integer.bitCount(awakeBits());
        }

        int loads(int b, int n) {
            if (b < 0 || b >= barges.size() || n < 0 || n > 9) return -1;
            int was = barges.get(b).cargo;
            if (was == n) return -2;
            barges.get(b).cargo = n;
            return 10 + was;
        }

        int turns(int b) {
            if (b < 0 || b >= barges.size()) return -1;
            Barge x = barges.get(b);
            x.heading ^= 1;
            x.there = false;
            return x.heading;
        }
    }

    interface Letters {
        int of(char letter);
    }

    /** An EXPRESSION by the strength of its signs. */
    static final class Formula {
        final String text;
        final Letters letters;
        int at;

        Formula(String text, Letters letters) {
            this.text = text;
            this.letters = letters;
        }

        int value() {
            return from(0);
        }

        static int strength(char sign) {
            return "<>=".indexOf(sign) >= 0 ? 1 : "+-".indexOf(sign) >= 0 ? 2 : "*/".indexOf(sign) >= 0 ? 3 : 0;
        }

        int from(int least) {
            int left = operand();
            while (at < text.length() && strength(text.charAt(at)) > least) {
                char sign = text.charAt(at++);
                int right = from(strength(sign));
                left = switch (sign) {
                    case '<' -> left < right ? 1 : 0;
                    case '>' -> left > right ? 1 : 0;
                    case '=' -> left == right ? 1 : 0;
                    case '+' -> left + right;
                    case '-' -> left - right;
                    case '*' -> left * right;
                    default -> right == 0 ? 0 : (int) ((long) left / right);
                };
            }
            return left;
        }

        int operand() {
            char c = text.charAt(at++);
            if (c == '-') return -operand();
            if (c == '(') {
                int v = from(0);
                at++;
                return v;
            }
            if (!Character.isDigit(c)) return letters.of(c);
            int v = c - '0';
            while (at < text.length() && Character.isDigit(text.charAt(at))) v = v * 10 + text.charAt(at++) - '0';
            return v;
        }
    }

    World w = new World();
    String text = "";
    List<Long> row = new ArrayList<>();
    ArrayDeque<World> past = new ArrayDeque<>();
    World[] kept = new World[2];
    List<int[]> heard = new ArrayList<>();

    int told(int answer, long... numbers) {
        row = new ArrayList<>();
        for (long n : numbers) row.add(n);
        return answer;
    }

    private String takeText() {
        String t = text;
        text = "";
        return t;
    }

    private static boolean digit(char c) {
        return c >= '0' && c <= '9';
    }

    private boolean isBarge(int b) {
        return b >= 0 && b < w.barges.size();
    }

    private boolean isPassenger(int p) {
        return p >= 0 && p < w.passengers.size();
    }

    int sign(int v) {
        if (text.length() > 76) return -1;
        for (int i = 3; i >= 0; i--) text += (char) (v >> (8 * i) & 255);
        return text.length();
    }

    boolean end(int n) {
        if (n < 0 || n > text.length()) return false;
        text = text.substring(0, n);
        return true;
    }

    int canal() {
        String t = takeText();
        for (int i = 0; i < t.length(); i++) if (i == 30 || ".b123456789".indexOf(t.charAt(i)) < 0) return -1 - i;
        if (t.length() < 4) return -1 - t.length();
        String rule = w.rule;
        w = new World();
        w.rule = rule;
        w.canal = t;
        newThings();
        return t.length();
    }

    private void newThings() {
        past.clear();
        kept = new World[2];
    }

    int barges() {
        String t = takeText();
        if (t.isEmpty()) return 0;
        List<Barge> all = new ArrayList<>(w.barges);
        int state = 0;
        String number = "";
        Barge b = null;
        for (int i = 0; i <= t.length(); i++) {
            char c = i < t.length() ? t.charAt(i) : 0;
            if (state == 1 && (!digit(c) || number.length() == 2) && !free(all, Integer.parseInt(number))) return -i;
            if (i == t.length()) break;
            if (i == 19) return -20;
            if (state == 0) {
                if (all.size() == 4 || !digit(c)) return -1 - i;
                number = "" + c;
                state = 1;
            } else if (state == 1) {
                if (digit(c) && number.length() == 1) {
                    number += c;
                } else if (c == '+' || c == '-') {
                    b = new Barge();
                    b.cell = Integer.parseInt(number);
                    b.heading = c == '+' ? 0 : 1;
                    state = 2;
                } else {
                    return -1 - i;
                }
            } else if (state == 2) {
                if (!digit(c)) return -1 - i;
                b.cargo = c - '0';
                all.add(b);
                state = 3;
            } else {
                if (c != ';') return -1 - i;
                state = 0;
            }
        }
        if (state != 3) return -1 - t.length();
        int lines = all.size() - w.barges.size();
        w.barges = all;
        newThings();
        return lines;
    }

    private boolean free(List<Barge> all, int cell) {
        if (cell >= w.canal.length() || w.lock(cell) > 0) return false;
        for (Barge b : all) if (b.cell == cell) return false;
        return true;
    }

    int passengers() {
        String t = takeText();
        if (t.isEmpty()) return 0;
        List<Passenger> all = new ArrayList<>(w.passengers);
        Passenger p = null;
        for (int i = 0; i < t.length(); i++) {
            char c = t.charAt(i);
            int place = i % 4;
            boolean good = i < 35 && switch (place) {
                case 0 -> all.size() < 9 && c >= '1' && c <= '9';
                case 1 -> digit(c) && c - '0' < w.barges.size();
                case 2 -> c == 'a' || c == 's';
                default -> c == ';';
            };
            if (!good) return -1 - i;
            if (place == 0) {
                p = new Passenger();
                p.lungs = c - '0';
                p.breath = p.lungs;
            } else if (place == 1) {
                p.barge = c - '0';
            } else if (place == 2) {
                p.awake = c == 'a';
                all.add(p);
            }
        }
        if (t.length() % 4 != 3) return -1 - t.length();
        int lines = all.size() - w.passengers.size();
        w.passengers = all;
        newThings();
        return lines;
    }

    /** Where a rule's text has its fault, or -1. */
    static int ruleFault(String t) {
        if (t.isEmpty()) return -1;
        ArrayDeque<Boolean> compared = new ArrayDeque<>();
        compared.push(false);
        boolean wanted = true;
        int digits = 0;
        for (int i = 0; i < t.length(); i++) {
            if (i == 40) return 40;
            char c = t.charAt(i);
            if (wanted) {
                if (c == '-') continue;
                if (c == '(' && compared.size() < 5) {
                    compared.push(false);
                    continue;
                }
                if (!digit(c) && "blcpmn".indexOf(c) < 0) return i;
                digits = digit(c) ? 1 : 0;
                wanted = false;
            } else if (digit(c)) {
                if (digits == 0 || digits == 3) return i;
                digits++;
            } else if ("+-*/".indexOf(c) >= 0) {
                wanted = true;
            } else if ("<>=".indexOf(c) >= 0) {
                if (compared.pop()) return i;
                compared.push(true);
                wanted = true;
            } else if (c == ')' && compared.size() > 1) {
                compared.pop();
                digits = 0;
            } else {
                return i;
            }
        }
        return wanted || compared.size() > 1 ? t.length() : -1;
    }

    int rule() {
        String t = takeText();
        int fault = ruleFault(t);
        if (fault >= 0) return -1 - fault;
        w.rule = t;
        return 0;
    }

    int barge(int b, int what) {
        if (!isBarge(b)) throw new NoSuchElementException();
        Barge x = w.barges.get(b);
        switch (what) {
            case 0: return x.cell;
            case 1: return x.heading;
            case 2: return x.cargo;
            case 3: return x.there ? 1 : 0;
            case 4: return w.wind(b);
            case 5: return w.hold(b);
            case 6: {
                int bits = 0;
                for (int i = 0; i < w.passengers.size(); i++) if (w.passengers.get(i).barge == b) bits += 1 << i;
                return bits;
            }
            default: throw new NoSuchElementException();
        }
    }

    int passenger(int p, int what) {
        if (!isPassenger(p)) throw new NoSuchElementException();
        Passenger x = w.passengers.get(p);
        switch (what) {
            case 0: return x.lungs;
            case 1: return x.barge;
            case 2: return x.awake ? 1 : 0;
            case 3: return x.breath;
            case 4: return w.puff(x);
            default: throw new NoSuchElementException();
        }
    }

    int sheet(int kind, int n, int f, int step) {
        if (kind < 0 || kind > 3 || n > 9) return -1;
        if (kind < 3 && n < 0) return -2;
        for (int i = 0; i < w.passengers.size(); i++) {
            int v = f + i * step;
            if (kind == 0) v = (byte) v;
            if (kind == 1) v = (short) v;
            if (kind == 3 || i >= n || v < 0) v = 0;
            w.passengers.get(i).breath = Math.min(v, w.passengers.get(i).lungs);
        }
        return kind == 3 ? -3 : w.allBreath();
    }

    private int kept(World former, int answer) {
        if (answer >= 0) {
            past.addLast(former);
            if (past.size() > 12) past.removeFirst();
        }
        return answer;
    }

    int hours(int n) {
        if (n < 0 || n > 60) return -1;
        World former = w.twin();
        w.went = 0;
        w.blown = 0;
        w.hours(n);
        if (n > 0) kept(former, 0);
        return told(w.there(), w.went, w.blown);
    }

    int changes(int p, int b) {
        return kept(w.twin(), w.changes(p, b));
    }

    int wakes(int p) {
        return kept(w.twin(), w.wakes(p));
    }

    int loads(int b, int n) {
        return kept(w.twin(), w.loads(b, n));
    }

    int turnsRound(int b) {
        return kept(w.twin(), w.turns(b));
    }

    int journey() {
        String t = takeText();
        int due = 0;
        for (int i = 0; i < t.length(); i++) {
            char c = t.charAt(i);
            if (i == 60) return -61;
            if (due > 0) {
                if (!digit(c)) return -1 - i;
                due--;
            } else if ("hwt".indexOf(c) >= 0) {
                due = 1;
            } else if ("cl".indexOf(c) >= 0) {
                due = 2;
            } else {
                return -1 - i;
            }
        }
        if (due > 0) return -1 - t.length();
        World former = w.twin();
        int done = 0;
        boolean stuck = false;
        for (String act : t.split("(?=[hcwlt])")) {
            if (act.isEmpty() || stuck) continue;
            int x = act.charAt(1) - '0';
            int y = act.length() > 2 ? act.charAt(2) - '0' : 0;
            int answer = switch (act.charAt(0)) {
                case 'h' -> w.hours(x).there();
                case 'c' -> w.changes(x, y);
                case 'w' -> w.wakes(x);
                case 'l' -> w.loads(x, y);
                default -> w.turns(x);
            };
            if (answer < 0) stuck = true;
            else done++;
        }
        if (done > 0) kept(former, 0);
        return told(done, stuck ? 1 : 0, w.hour);
    }

    int undo() {
        if (past.isEmpty()) return -1;
        String rule = w.rule;
        w = past.removeLast();
        w.rule = rule;
        return past.size();
    }

    int later(int b, int n) {
        if (!isBarge(b) || n < 0 || n > 99) return -1;
        World t = w.twin().hours(n);
        return told(t.barges.get(b).cell, t.barges.stream().mapToLong(x -> x.cell).toArray());
    }

    int arrives(int b) {
        if (!isBarge(b)) return -1;
        for (int n = 0; n <= 99; n++) {
            World t = w.twin().hours(n);
            if (t.barges.get(b).there) return told(n, t.hold(b));
        }
        return -2;
    }

    int stops(int b) {
        if (!isBarge(b)) return -1;
        World t = w.twin();
        for (int n = 1; n <= 99; n++) {
            int was = t.barges.get(b).cell;
            t.anHour();
            Barge x = t.barges.get(b);
            boolean ahead = x.heading == 0 ? x.cell > was : x.cell < was;
            if (!ahead && !x.there) return told(n, x.cell);
        }
        return -2;
    }

    int nearest(int n) {
        if (n < 0 || n > 99) return -1;
        if (w.barges.size() < 2) return -2;
        World t = w.twin().hours(n);
        TreeSet<Integer> found = new TreeSet<>();
        for (int i = 0; i < t.barges.size(); i++)
            for (int j = i + 1; j < t.barges.size(); j++)
                found.add(100 * Math.abs(t.barges.get(i).cell - t.barges.get(j).cell) + 10 * i + j);
        int v = found.first();
        return told(v / 100, v / 10 % 10, v % 10);
    }

    int breath(int n) {
        if (n < 0 || n > 99) return -1;
        World t = w.twin().hours(n);
        return told(t.allBreath(), t.passengers.stream().mapToLong(x -> x.breath).toArray());
    }

    int meets(int i, int j) {
        if (!isBarge(i) || !isBarge(j) || i == j) return -1;
        World t = w.twin();
        for (int n = 0; n <= 99; n++, t.anHour()) {
            int a = t.barges.get(i).cell;
            int b = t.barges.get(j).cell;
            if (a - b == 1 || b - a == 1) return told(n, a, b);
        }
        return -2;
    }

    int tires(int p) {
        if (!isPassenger(p)) return -1;
        World t = w.twin();
        for (int n = 0; n <= 99; n++, t.anHour()) {
            Passenger x = t.passengers.get(p);
            if (t.puff(x) == 0) return told(n, x.breath);
        }
        return -2;
    }

    int near(int cell, int n) {
        if (!w.inside(cell) || n < 0 || n > 99) return -1;
        if (w.barges.isEmpty()) return -2;
        World t = w.twin().hours(n);
        for (int far = 0; far < 30; far++)
            for (int b = 0; b < t.barges.size(); b++)
                if (Math.abs(t.barges.get(b).cell - cell) == far) return told(b, far);
        throw new IllegalStateException();
    }

    private World with(int p, int b) {
        World t = w.twin();
        t.passengers.get(p).barge = b;
        return t;
    }

    int helps(int b) {
        if (!isBarge(b)) return -1;
        int best = -2;
        int most = -1;
        for (int p = 0; p < w.passengers.size(); p++) {
            if (w.passengers.get(p).barge == b) continue;
            int wind = with(p, b).wind(b);
            if (wind > most) {
                most = wind;
                best = p;
            }
        }
        return best == -2 ? -2 : told(best, most, w.wind(b));
    }

    int hastens(int b) {
        if (!isBarge(b)) return -1;
        if (w.barges.get(b).there) return -2;
        for (int n = 1; n <= 99; n++)
            for (int p = 0; p < w.passengers.size(); p++)
                if (w.passengers.get(p).barge != b && with(p, b).hours(n).barges.get(b).there) return told(p, n);
        return -2;
    }

    int rouses(int n) {
        if (n < 1 || n > 30) return -1;
        int best = -2;
        int most = -1;
        for (int p = 0; p < w.passengers.size(); p++) {
            if (w.passengers.get(p).awake) continue;
            World t = w.twin();
            t.passengers.get(p).awake = true;
            int there = t.hours(n).there();
            if (there > most) {
                most = there;
                best = p;
            }
        }
        return best == -2 ? -2 : told(best, most, w.twin().hours(n).there());
    }

    private int breathOf(int bits) {
        int sum = 0;
        for (int p = 0; p < 9; p++) if ((bits & 1 << p) != 0) sum += w.passengers.get(p).breath;
        return sum;
    }

    int evens() {
        int awake = w.awakeBits();
        for (int differ = 0; ; differ++)
            for (int part = 0; part < 512; part++)
                if ((part & awake) == part && Math.abs(breathOf(part) - breathOf(awake ^ part)) == differ)
                    return told(differ, part, breathOf(part));
    }

    int seats(int n) {
        return n < 1 || n > 30 ? -1 : best(n, false);
    }

    int pairs(int n) {
        return n < 1 || n > 30 ? -1 : best(n, true);
    }

    private int best(int n, boolean two) {
        List<int[]> moves = new ArrayList<>();
        moves.add(new int[0]);
        List<int[]> single = new ArrayList<>();
        for (int p = 0; p < w.passengers.size(); p++)
            for (int b = 0; b < w.barges.size(); b++)
                if (w.passengers.get(p).barge != b) single.add(new int[] {p, b});
        moves.addAll(single);
        if (two)
            for (int[] x : single)
                for (int[] y : single) if (x[0] < y[0]) moves.add(new int[] {x[0], x[1], y[0], y[1]});
        int most = -1;
        for (int[] m : moves) {
            World t = w.twin();
            for (int i = 0; i < m.length; i += 2) t.passengers.get(m[i]).barge = m[i + 1];
            int there = t.hours(n).there();
            if (there > most) {
                most = there;
                told(0, java.util.Arrays.stream(m).asLongStream().toArray());
            }
        }
        return most;
    }

    int holds(int b, int v) {
        if (!isBarge(b) || v < 1 || v > 99) return -1;
        int able = barge(b, 6) & w.awakeBits();
        for (int many = 1; many <= 9; many++)
            for (int part = 0; part < 512; part++)
                if ((part & able) == part && Integer.bitCount(part) == many && breathOf(part) >= v) return told(many, part);
        return -2;
    }

    int locks(int b) {
        if (!isBarge(b)) return -1;
        Barge x = w.barges.get(b);
        int many = 0;
        int first = -1;
        int most = 0;
        for (int c = x.cell + x.dir(); w.inside(c); c += x.dir()) {
            most = Math.max(most, w.lock(c));
            if (w.lock(c) > w.hold(b)) {
                many++;
                if (first < 0) first = c;
            }
        }
        return told(many, first, most);
    }

    private static int till(World t, int b) {
        for (int n = 0; n <= 99; n++, t.anHour()) if (t.barges.get(b).there) return n;
        return -1;
    }

    int onion(int b, int k) {
        if (!isBarge(b) || k < 1 || k > 9) return -1;
        World t = w.twin();
        t.barges.get(b).cargo = Math.min(9, t.barges.get(b).cargo + k);
        int with = till(t, b);
        int without = till(w.twin(), b);
        return with < 0 || without < 0 ? -2 : 100 + with - without;
    }

    int yawns(int p, int v) {
        if (!isPassenger(p) || v < 0 || v > 30) return -1;
        int[] round = new int[w.passengers.size()];
        java.util.Arrays.fill(round, 99);
        round[p] = 0;
        for (int r = 1; r <= 9; r++)
            for (int i = 0; i < round.length; i++)
                for (int j = 0; j < round.length; j++)
                    if (round[j] == r - 1 && round[i] > r && Math.abs(w.barges.get(w.passengers.get(i).barge).cell
                            - w.barges.get(w.passengers.get(j).barge).cell) <= v) round[i] = r;
        int bits = 0;
        int last = 0;
        for (int i = 0; i < round.length; i++)
            if (round[i] < 99) {
                bits |= 1 << i;
                last = Math.max(last, round[i]);
            }
        return told(bits, last);
    }

    int heard(int what, int v) {
        boolean good = switch (what) {
            case 0 -> v >= 1 && v <= 9;
            case 1 -> v >= 0 && v <= 3;
            case 2 -> v == 0 || v == 1;
            case 3, 4 -> v >= 0 && v <= 9;
            default -> false;
        };
        if (!good || heard.size() == 12) return -1;
        heard.add(new int[] {what, v});
        return heard.size();
    }

    int forget() {
        int n = heard.size();
        heard.clear();
        return n;
    }

    private int who() {
        int bits = 0;
        for (int i = 0; i < w.passengers.size(); i++) {
            Passenger p = w.passengers.get(i);
            boolean all = heard.stream().allMatch(h -> switch (h[0]) {
                case 0 -> p.lungs >= h[1];
                case 1 -> p.barge == h[1];
                case 2 -> p.awake == (h[1] == 1);
                case 3 -> p.breath <= h[1];
                default -> w.puff(p) == h[1];
            });
            if (all) bits |= 1 << i;
        }
        return bits;
    }

    int fits() {
        return told(who(), Integer.bitCount(who()));
    }

    int asks() {
        int who = who();
        if (who == 0) return -2;
        for (int left = 0; ; left++)
            for (int v = 1; v <= 9; v++) {
                int yes = 0;
                int no = 0;
                for (int i = 0; i < w.passengers.size(); i++)
                    if ((who & 1 << i) != 0) {
                        if (w.passengers.get(i).lungs >= v) yes++;
                        else no++;
                    }
                if (Math.max(yes, no) == left) return told(v, left);
            }
    }

    private static final byte[][] WINS = new byte[61][121];

    /** Whether the one whose turn it is wins with so many left, who may blow so many. */
    private static boolean wins(int left, int most) {
        if (WINS[left][most] == 0) {
            boolean can = false;
            for (int x = 1; x <= most && x <= left && !can; x++) can = x == left || !wins(left - x, 2 * x);
            WINS[left][most] = (byte) (can ? 1 : 2);
        }
        return WINS[left][most] == 1;
    }

    int blows(int n) {
        if (n < 2 || n > 60) return -1;
        for (int x = 1; x < n; x++) if (!wins(n - x, 2 * x)) return x;
        return 0;
    }

    int dozes(int n, int k, int p) {
        if (n < 1 || n > 4 || k < 0 || k > 9 || p < 0 || p > 10) return -1;
        int asleep = w.passengers.size() - Integer.bitCount(w.awakeBits());
        if (asleep * n > 16) return -2;
        // likely[j]: by how much (over 10 to the power of all throws so far) j have woken
        BigInteger[] likely = new BigInteger[10];
        java.util.Arrays.fill(likely, BigInteger.ZERO);
        likely[0] = BigInteger.ONE;
        BigInteger sleeps = BigInteger.valueOf(10 - p).pow(n);
        BigInteger wakes = BigInteger.TEN.pow(n).subtract(sleeps);
        for (int i = 0; i < asleep; i++)
            for (int j = 9; j >= 0; j--)
                likely[j] = likely[j].multiply(sleeps).add(j == 0 ? BigInteger.ZERO : likely[j - 1].multiply(wakes));
        BigInteger up = BigInteger.ZERO;
        for (int j = k; j <= 9; j++) up = up.add(likely[j]);
        BigInteger low = BigInteger.TEN.pow(n * asleep);
        BigInteger g = up.gcd(low);
        return told(0, up.divide(g).longValueExact(), low.divide(g).longValueExact());
    }

    private static int gain(int x, int y, int c) {
        return x > y ? 0 : x < y ? x - c : (x - c) / 2;
    }

    int rests(int c) {
        if (c < 0 || c > 9) return -1;
        List<Integer> found = new ArrayList<>();
        for (int x = 0; x < 10; x++)
            for (int y = 0; y < 10; y++) {
                boolean rest = true;
                for (int z = 0; z < 10; z++)
                    rest &= gain(z, y, c) <= gain(x, y, c) && gain(z, x, c) <= gain(y, x, c);
                if (rest) found.add(10 * x + y);
            }
        return found.isEmpty() ? told(0) : told(found.size(), found.get(0) / 10, found.get(0) % 10);
    }

    int law() {
        String t = takeText();
        int fault = ruleFault(t);
        if (fault >= 0) return -10000 - fault;
        World other = w.twin();
        other.rule = t;
        int by = other.hours(20).there();
        int now = w.twin().hours(20).there();
        return told(by - now, by, now);
    }

    int years(int seed, int n) {
        if (n < 1 || n > 60) return -1;
        World t = w.twin();
        int[] r = {seed};
        for (int i = 0; i < n; i++) {
            int kind = draw(r, 4);
            if (kind <= 1) t.anHour();
            else if (!t.passengers.isEmpty()) {
                int p = draw(r, t.passengers.size());
                if (kind == 2) t.wakes(p);
                else t.changes(p, draw(r, t.barges.size()));
            }
        }
        return told(t.there(), Integer.bitCount(t.awakeBits()), t.allBreath());
    }

    private static int draw(int[] r, int n) {
        r[0] = r[0] * 1103515245 + 12345;
        return (int) ((r[0] & 0xffffffffL) / 65536 % n);
    }

    boolean keep(int i) {
        if (i < 0 || i > 1) return false;
        kept[i] = w.twin();
        return true;
    }

    boolean again(int i) {
        if (i < 0 || i > 1 || kept[i] == null) return false;
        String rule = w.rule;
        w = kept[i].twin();
        w.rule = rule;
        past.clear();
        return true;
    }

    int count(int what) {
        int there = 0;
        for (int b = 0; b < w.barges.size(); b++) if (w.barges.get(b).there) there |= 1 << b;
        return switch (what) {
            case 0 -> w.canal.length();
            case 1 -> w.barges.size();
            case 2 -> w.passengers.size();
            case 3 -> w.hour;
            case 4 -> there;
            case 5 -> w.awakeBits();
            case 6 -> w.allBreath();
            case 7 -> w.barges.stream().mapToInt(b -> b.cargo).sum();
            case 8 -> heard.size();
            case 9 -> past.size();
            case 10 -> row.size();
            case 11 -> text.length();
            default -> -1;
        };
    }

    long row(int i) {
        if (i < 0 || i >= row.size()) throw new NoSuchElementException();
        return row.get(i);
    }
}
