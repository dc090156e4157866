import java.lang.reflect.InvocationTargetException;
import java.lang.reflect.Method;
import java.util.NoSuchElementException;
import java.util.Random;

/** Runs of drawn calls: the program answers all of them as the model does. */
public final class ModelTest {
    private static final int RUNS = 800;
    private static final int CALLS = 500;

    private final Random random;
    private final int seed;
    private final BargesByBreath x = new BargesByBreath();
    private final Model m = new Model();
    private final StringBuilder told = new StringBuilder();
    private int calls;

    private ModelTest(int seed) {
        this.seed = seed;
        this.random = new Random(seed);
    }

    public static void main(String[] args) throws Exception {
        int from = args.length > 0 ? Integer.parseInt(args[0]) : 0;
        int runs = args.length > 1 ? Integer.parseInt(args[1]) : RUNS;
        for (int seed = from; seed < from + runs; seed++) {
            if (!new ModelTest(seed).run()) {
                System.exit(1);
            }
        }
        System.out.println("the program is as the model in " + runs + " runs");
    }

    private boolean run() throws Exception {
        if (random.nextInt(8) > 0) {
            tell(canalText(), "canal");
            tell(bargesText(), "barges");
            tell(passengersText(), "passengers");
        }
        boolean good = true;
        while (good && calls < CALLS) {
            good = step();
        }
        if (!good) {
            System.out.println("seed " + seed + told);
        }
        return good;
    }

    /** One call of the face on both, by its name. */
    private boolean same(String name, int... args) throws Exception {
        calls++;
        Class<?>[] kinds = new Class<?>[args.length];
        Object[] values = new Object[args.length];
        StringBuilder call = new StringBuilder(name).append('(');
        for (int i = 0; i < args.length; i++) {
            kinds[i] = int.class;
            values[i] = args[i];
            call.append(i > 0 ? ", " : "").append(args[i]);
        }
        String due = answer(Model.class.getDeclaredMethod(name, kinds), m, values);
        String got = answer(BargesByBreath.class.getMethod(name, kinds), x, values);
        told.append("\n").append(call).append(") ").append(got);
        if (!due.equals(got)) {
            told.append(", due is ").append(due);
            return false;
        }
        if (m.count(10) != x.count(10)) {
            told.append(", row has ").append(x.count(10)).append(", due is ").append(m.row);
            return false;
        }
        for (int i = 0; i < m.count(10); i++) {
            if (m.row(i) != x.row(i)) {
                told.append(", row ").append(i).append(" is ").append(x.row(i)).append(", due is ").append(m.row);
                return false;
            }
        }
        return true;
    }

    private static String answer(Method method, Object on, Object[] values) throws Exception {
        try {
            return method.invoke(on, values).toString();
        } catch (InvocationTargetException e) {
            return e.getCause() instanceof NoSuchElementException ? "NoSuchElementException" : "" + e.getCause();
        }
    }

    private boolean tell(String text, String call) throws Exception {
        told.append("\n").append('"').append(text).append('"');
        boolean good = true;
        for (int i = 0; i < text.length(); i += 4) {
            int v = 0;
            for (int j = i; j < i + 4; j++) {
                v = v << 8 | (j < text.length() ? text.charAt(j) : random.nextInt(256));
            }
            good = good && same("sign", v);
        }
        return good && same("end", text.length()) && same(call);
    }

    private int some(int least, int most) {
        if (random.nextInt(40) == 0) {
            return new int[] {least - 1, most + 1, Integer.MIN_VALUE, Integer.MAX_VALUE, -1}[random.nextInt(5)];
        }
        return least + random.nextInt(most - least + 1);
    }

    private int aBarge() {
        return some(0, Math.max(0, m.count(1) - 1));
    }

    private int aPassenger() {
        return some(0, Math.max(0, m.count(2) - 1));
    }

    private boolean step() throws Exception {
        if (!everyState()) {
            return false;
        }
        int kind = random.nextInt(100);
        if (kind < 20) {
            return texts();
        }
        if (kind < 50) {
            return acts();
        }
        return kind < 80 ? laterQuestions() : otherQuestions();
    }

    /** All that barge(), passenger() and count() tell, seldom, as it takes many calls. */
    private boolean everyState() throws Exception {
        if (random.nextInt(12) > 0) {
            return true;
        }
        boolean good = true;
        for (int what = -1; what <= 12; what++) {
            good = good && same("count", what);
        }
        for (int b = 0; b < m.count(1); b++) {
            for (int what = 0; what < 7; what++) {
                good = good && same("barge", b, what);
            }
        }
        int p = aPassenger();
        for (int what = -1; what < 6; what++) {
            good = good && same("passenger", p, what);
        }
        calls -= 20;
        return good && same("barge", aBarge(), some(0, 7)) && same("row", some(0, 4));
    }

    private boolean texts() throws Exception {
        switch (random.nextInt(20)) {
            case 0:
                return tell(spoilt(canalText()), "canal") && tell(bargesText(), "barges") && tell(passengersText(), "passengers");
            case 1:
            case 2:
                return tell(spoilt(bargesText()), "barges");
            case 3:
            case 4:
                return tell(spoilt(passengersText()), "passengers");
            case 5:
            case 6:
            case 7:
                return tell(spoilt(ruleText()), "rule");
            case 8:
            case 9:
            case 10:
                return tell(spoilt(ruleText()), "law");
            case 11:
            case 12:
            case 13:
            case 14:
                return tell(spoilt(journeyText()), "journey");
            case 15:
                return same("sign", random.nextInt());
            case 16:
                return same("end", some(0, 12));
            case 17:
                return same(new String[] {"barges", "passengers", "rule", "journey", "law", "canal"}[random.nextInt(6)]);
            default:
                int[] fs = {some(0, 9), random.nextInt(), random.nextInt(600) - 300, random.nextInt(140000) - 70000};
                return same("sheet", some(0, 3), some(-1, 9), fs[random.nextInt(4)], fs[random.nextInt(4)]);
        }
    }

    private boolean acts() throws Exception {
        switch (random.nextInt(10)) {
            case 0:
            case 1:
                return same("hours", random.nextInt(3) == 0 ? some(0, 60) : some(0, 3));
            case 2:
            case 3:
                return same("changes", aPassenger(), aBarge());
            case 4:
                return same("wakes", aPassenger());
            case 5:
                return same("loads", aBarge(), some(0, 9));
            case 6:
                return same("turnsRound", aBarge());
            case 7:
                return same("undo");
            case 8:
                return same("keep", some(0, 1));
            default:
                return same("again", some(0, 1));
        }
    }

    private boolean laterQuestions() throws Exception {
        int b = aBarge();
        int n = random.nextBoolean() ? some(0, 99) : some(0, 5);
        switch (random.nextInt(17)) {
            case 0:
                return same("later", b, n);
            case 1:
                return same("arrives", b);
            case 2:
                return same("stops", b);
            case 3:
                return same("nearest", n);
            case 4:
                return same("breath", n);
            case 5:
                return same("meets", b, aBarge());
            case 6:
                return same("tires", aPassenger());
            case 7:
                return same("near", some(0, m.count(0) - 1), n);
            case 8:
                return same("helps", b);
            case 9:
                return random.nextInt(4) > 0 || same("hastens", b);
            case 10:
                return same("rouses", some(1, 30));
            case 11:
                return same("evens");
            case 12:
                return same("seats", some(1, 30));
            case 13:
                return random.nextInt(6) > 0 || same("pairs", random.nextBoolean() ? some(1, 6) : some(1, 30));
            case 14:
                return same("holds", b, random.nextBoolean() ? some(1, 99) : some(1, 20));
            case 15:
                return same("locks", b);
            default:
                return same("onion", b, some(1, 9));
        }
    }

    private boolean otherQuestions() throws Exception {
        switch (random.nextInt(11)) {
            case 0:
                return same("yawns", aPassenger(), random.nextBoolean() ? some(0, 30) : some(0, 4));
            case 1:
            case 2:
                return same("heard", some(0, 4), some(0, 9));
            case 3:
                return random.nextInt(3) > 0 || same("forget");
            case 4:
                return same("fits");
            case 5:
                return same("asks");
            case 6:
                return same("blows", some(2, 60));
            case 7:
                return same("dozes", some(1, 4), random.nextBoolean() ? some(0, 9) : some(0, 3), some(0, 10));
            case 8:
                return same("rests", some(0, 9));
            default:
                return same("years", random.nextInt(), some(1, 60));
        }
    }

    // ---- texts

    private String spoilt(String text) {
        int kind = random.nextInt(6);
        if (kind > 2 || text.isEmpty()) {
            return text;
        }
        int at = random.nextInt(text.length() + 1);
        char sign = "0123456789.b;+-as()*/<=>hcwltlpmnx".charAt(random.nextInt(34));
        if (kind == 0) {
            return text.substring(0, at);
        }
        String behind = kind == 1 && at < text.length() ? text.substring(at + 1) : text.substring(at);
        String spoilt = text.substring(0, at) + sign + behind;
        return spoilt.length() > 80 ? spoilt.substring(0, 80) : spoilt;
    }

    private String canalText() {
        int length = random.nextInt(4) == 0 ? 25 + random.nextInt(7) : 4 + random.nextInt(16);
        StringBuilder text = new StringBuilder();
        for (int i = 0; i < length; i++) {
            int kind = random.nextInt(12);
            text.append(kind == 0 ? (char) ('1' + random.nextInt(9)) : kind < 3 ? 'b' : '.');
        }
        return text.toString();
    }

    private String bargesText() {
        int lines = random.nextInt(12) == 0 ? random.nextInt(7) : 1 + random.nextInt(4);
        StringBuilder text = new StringBuilder();
        for (int i = 0; i < lines; i++) {
            int cell = random.nextInt(m.count(0));
            for (int tries = 0; tries < 20 && taken(text, cell); tries++) {
                cell = random.nextInt(m.count(0));
            }
            text.append(i > 0 ? ";" : "");
            text.append(cell < 10 && random.nextInt(3) == 0 ? "0" : "").append(cell);
            text.append(random.nextBoolean() ? '+' : '-').append(random.nextInt(random.nextInt(3) == 0 ? 10 : 3));
        }
        return text.toString();
    }

    private boolean taken(StringBuilder text, int cell) {
        return m.w.lock(cell) > 0 || m.w.on(cell) != null
                || (";" + text).matches(".*;0?" + cell + "[+-].*");
    }

    private String passengersText() {
        int lines = random.nextInt(12) == 0 ? random.nextInt(12) : 1 + random.nextInt(9);
        StringBuilder text = new StringBuilder();
        for (int i = 0; i < lines; i++) {
            text.append(i > 0 ? ";" : "").append(1 + random.nextInt(9)).append(random.nextInt(Math.max(1, m.count(1))));
            text.append(random.nextInt(4) > 0 ? 'a' : 's');
        }
        return text.toString();
    }

    private String ruleText() {
        if (random.nextInt(10) == 0) {
            return "";
        }
        String text = expression(random.nextInt(5));
        for (int i = 0; i < 30 && text.length() > 40 && random.nextInt(30) > 0; i++) {
            text = expression(random.nextInt(4));
        }
        return text.length() > 80 ? text.substring(0, 80) : text;
    }

    private String expression(int depth) {
        String text = random.nextInt(4) > 0 ? "" : sum(depth) + "<>=".charAt(random.nextInt(3));
        return text + sum(depth);
    }

    private String sum(int depth) {
        StringBuilder text = new StringBuilder(thing(depth));
        for (int i = random.nextInt(4); i > 0; i--) {
            text.append("+-*/".charAt(random.nextInt(4))).append(thing(depth));
        }
        return text.toString();
    }

    private String thing(int depth) {
        String minus = random.nextInt(6) > 0 ? "" : "--".substring(random.nextInt(2));
        if (depth > 0 && random.nextInt(3) == 0) {
            return minus + "(" + expression(depth - 1) + ")";
        }
        if (random.nextInt(3) == 0) {
            return minus + random.nextInt(random.nextInt(4) == 0 ? 1000 : 10);
        }
        return minus + "blcpmnbbl".charAt(random.nextInt(9));
    }

    private String journeyText() {
        int acts = random.nextInt(6) == 0 ? random.nextInt(28) : random.nextInt(8);
        StringBuilder text = new StringBuilder();
        for (int i = 0; i < acts; i++) {
            int p = random.nextInt(Math.max(1, m.count(2) + random.nextInt(20) / 19));
            int b = random.nextInt(Math.max(1, m.count(1)));
            switch (random.nextInt(5)) {
                case 0:
                    text.append('h').append(random.nextInt(10));
                    break;
                case 1:
                    text.append('c').append(Math.min(9, p)).append(b);
                    break;
                case 2:
                    text.append('w').append(Math.min(9, p));
                    break;
                case 3:
                    text.append('l').append(b).append(random.nextInt(10));
                    break;
                default:
                    text.append('t').append(b);
                    break;
            }
        }
        return text.length() > 80 ? text.substring(0, 80) : text.toString();
    }
}
