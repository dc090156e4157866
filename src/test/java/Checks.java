import java.util.Arrays;
import java.util.NoSuchElementException;

/** What the tests of the promises have in common: checks, texts, worlds, and twins that tell whether anything changed. */
class Checks {
    static final String DIGITS = "0123456789";

    private static int wrong;
    private static int checks;

    interface Call {
        long answer();
    }

    /** A call on an object. */
    interface On {
        long answer(BargesByBreath x);
    }

    interface Maker {
        BargesByBreath make();
    }

    static void finish() {
        System.out.println(wrong == 0 ? "all " + checks + " checks hold" : wrong + " of " + checks + " checks fail");
        if (wrong > 0) {
            System.exit(1);
        }
    }

    private static void check(boolean holds, String message) {
        checks++;
        if (!holds) {
            wrong++;
            System.out.println(message);
        }
    }

    static void is(String what, long got, long due) {
        check(got == due, what + ": got " + got + ", due is " + due);
    }

    static void is(String what, boolean got, boolean due) {
        check(got == due, what + ": got " + got + ", due is " + due);
    }

    static void rowIs(String what, BargesByBreath x, long... due) {
        long[] got = row(x);
        check(Arrays.equals(got, due), what + ": row " + Arrays.toString(got) + ", due is " + Arrays.toString(due));
    }

    /** An answer and the ROW that comes with it. */
    static void tells(String what, BargesByBreath x, long got, long due, long... row) {
        is(what, got, due);
        rowIs(what, x, row);
    }

    static void isNone(String what, Call call) {
        String got;
        try {
            got = "" + call.answer();
        } catch (NoSuchElementException e) {
            got = null;
        }
        check(got == null, what + ": got " + got + ", due is NoSuchElementException");
    }

    // ---- texts and worlds

    static BargesByBreath say(BargesByBreath x, String text) {
        x.end(0);
        for (int i = 0; i < text.length(); i += 4) {
            int v = 0;
            for (int j = i; j < i + 4; j++) {
                v = v << 8 | (j < text.length() ? text.charAt(j) : 0);
            }
            x.sign(v);
        }
        is("end() of " + text, x.end(text.length()), true);
        return x;
    }

    static BargesByBreath world(String canal, String barges, String passengers) {
        BargesByBreath x = new BargesByBreath();
        is("canal() of " + canal, say(x, canal).canal(), canal.length());
        is("barges() of " + barges, say(x, barges).barges(), lines(barges));
        is("passengers() of " + passengers, say(x, passengers).passengers(), lines(passengers));
        return x;
    }

    static BargesByBreath world(String canal, String barges, String passengers, String rule) {
        BargesByBreath x = world(canal, barges, passengers);
        is("rule() of " + rule, say(x, rule).rule(), 0);
        return x;
    }

    private static int lines(String text) {
        return text.isEmpty() ? 0 : text.split(";").length;
    }

    static String many(String text, int times) {
        return text.repeat(times);
    }

    /** So many LINES alike. */
    static String lines(String line, int times) {
        return many(line + ";", times - 1) + line;
    }

    /** Which signs can stand behind a beginning; all others have the fault at their place. */
    static void canStand(String what, Maker maker, String before, String good, On call) {
        for (int sign = 0; sign < 256; sign++) {
            long answer = call.answer(say(maker.make(), before + (char) sign));
            is(what + ": sign " + sign + " behind \"" + before + "\"", answer != -1 - before.length(), good.indexOf(sign) >= 0);
        }
    }

    static long read(Maker maker, String text, On call) {
        return call.answer(say(maker.make(), text));
    }

    /**
     * A world in which every call would find something to change: three acts to undo, two kept, two
     * heard, a rule, a ROW of three numbers, and a text that is a rule.
     */
    static BargesByBreath fullWorld() {
        BargesByBreath x = world("..b.4...b.", "1+2;2-0;9-1", "70a;50s;91a;62a", "b/2+m");
        x.sheet(2, 4, 6, -1);
        x.keep(1);
        x.hours(1);
        x.turnsRound(2);
        x.keep(0);
        x.wakes(1);
        x.heard(0, 6);
        x.heard(2, 1);
        x.later(0, 3);
        return say(x, "l-b");
    }

    // ---- all that can be seen of an object

    private static long[] row(BargesByBreath x) {
        long[] row = new long[x.count(10)];
        for (int i = 0; i < row.length; i++) {
            row[i] = x.row(i);
        }
        return row;
    }

    /** An object is good for 512 calls, so nothing is asked twice here. */
    static String all(BargesByBreath x) {
        int[] counts = new int[12];
        for (int what = 0; what < 12; what++) {
            counts[what] = x.count(what);
        }
        StringBuilder told = new StringBuilder("counts ").append(Arrays.toString(counts));
        for (int b = 0; b < counts[1]; b++) {
            told.append("; barge");
            for (int what = 0; what < 7; what++) {
                told.append(' ').append(x.barge(b, what));
            }
        }
        for (int p = 0; p < counts[2]; p++) {
            told.append("; passenger");
            for (int what = 0; what < 5; what++) {
                told.append(' ').append(x.passenger(p, what));
            }
        }
        told.append("; row");
        for (int i = 0; i < counts[10]; i++) {
            told.append(' ').append(x.row(i));
        }
        return told.toString();
    }

    static void alike(String what, BargesByBreath x, BargesByBreath twin) {
        String got = all(x);
        String due = all(twin);
        check(got.equals(due), what + ": is\n  " + got + ", due is\n  " + due);
    }

    /** Two objects are the same in what is seen and in what can be brought to light: the text, what is kept, what can be undone. */
    static void sameInAll(String what, BargesByBreath x, BargesByBreath twin) {
        alike(what, x, twin);
        is(what + ", then fits()", x.fits(), twin.fits());
        is(what + ", then locks()", x.locks(0), twin.locks(0));
        is(what + ", then later()", x.later(0, 9), twin.later(0, 9));
        is(what + ", then the text as a rule", x.rule(), twin.rule());
        alike(what + ", then the text as a rule", x, twin);
        int left = twin.count(9);
        for (int i = 0; i < left; i++) {
            is(what + ", then undo()", x.undo(), twin.undo());
            if (i < 3) {
                alike(what + ", then undo()", x, twin);
            }
        }
        for (int i = 0; i < 2; i++) {
            is(what + ", then again(" + i + ")", x.again(i), twin.again(i));
            alike(what + ", then again(" + i + ")", x, twin);
        }
    }

    /** A refused call answers so, and all is as on a twin that did not have it. */
    static void refused(String what, Maker maker, long due, On call) {
        BargesByBreath x = maker.make();
        is(what, call.answer(x), due);
        sameInAll(what, x, maker.make());
    }

    static void refused(String what, long due, On call) {
        refused(what, Checks::fullWorld, due, call);
    }

    /** NoSuchElementException, and all is as on a twin. */
    static void throwsNone(String what, Maker maker, On call) {
        BargesByBreath x = maker.make();
        isNone(what, () -> call.answer(x));
        sameInAll(what, x, maker.make());
    }

    /** A text that can't be read: the answer, and all but THE TEXT, which is empty, is as on a twin. */
    static void refusedText(String what, Maker maker, String text, long due, On call) {
        BargesByBreath x = say(maker.make(), text);
        is(what, call.answer(x), due);
        is(what + ": the text is empty", x.count(11), 0);
        sameInAll(what, x, say(maker.make(), ""));
    }

    static void refusedText(String what, String text, long due, On call) {
        refusedText(what, Checks::fullWorld, text, due, call);
    }

    /** A question: whatever it answers, all but the ROW is as on a twin. */
    static void changesNothing(String what, Maker maker, On call) {
        BargesByBreath x = maker.make();
        BargesByBreath twin = maker.make();
        call.answer(x);
        x.fits();
        twin.fits();
        sameInAll(what + " changes nothing", x, twin);
    }

    static void changesNothing(String what, On call) {
        changesNothing(what, Checks::fullWorld, call);
    }
}
