import java.util.function.IntSupplier;
import java.util.function.Supplier;

/** What the tests of the document's sentences share. Each refusal is tried on an object of its own. */
abstract class Bounds {
    static final int BAD = NoiseTithe.BAD, FULL = NoiseTithe.FULL, STATE = NoiseTithe.STATE;
    static final int SPENT = NoiseTithe.SPENT, NONE = NoiseTithe.NONE;
    static final int NOTHING = Check.NOTHING, BEYOND = Check.BEYOND, UNLIKE = Check.UNLIKE;
    static final int NOUGHT = Check.NOUGHT, SIZE = Check.SIZE;
    static final int MIN = Integer.MIN_VALUE, MAX = Integer.MAX_VALUE;

    /** Eight FORGES; the fifth one is at THE ALTAR: RIPPLES 14 15 16 17 18 17 16 15, 128 together. */
    static final String FORGES = "a40 f90 f90 f90 f90 f90 f90 f90 f90";

    /** Eight HOUSES, all without RIPPLE and SOUND. */
    static final String STILL = "a00 h00 h00 h00 h00 h00 h00 h00 h00";

    final Sentences s;
    final Check check;

    Bounds(Sentences sentences) {
        s = sentences;
        check = sentences.check;
    }

    /** A call in which one number is tried. */
    interface Tried {
        int with(NoiseTithe x, int v);
    }

    static NoiseTithe fresh() {
        return new NoiseTithe();
    }

    static NoiseTithe street(String text) {
        return Check.street(text);
    }

    static NoiseTithe withRow(NoiseTithe x, int r, int... values) {
        Check.fillRow(x, r, values);
        return x;
    }

    static NoiseTithe withText(NoiseTithe x, int t, String text) {
        Check.write(x, t, text);
        return x;
    }

    /** A STREET behind so many HOURS in which a set was loud. */
    static NoiseTithe behindHours(String text, int hours, int set) {
        NoiseTithe x = street(text);
        for (int k = 0; k < hours; k++) {
            x.hour(set);
        }
        return x;
    }

    void due(String call, long got, long want) {
        check.due(call, got, want);
    }

    void told(String call, NoiseTithe x, int got, int want, int wantAsked) {
        check.told(call, x, got, want, wantAsked);
    }

    void bad(String call, NoiseTithe x, IntSupplier made) {
        check.refused(call, x, made, BAD);
    }

    /** What is just outside of a range is BAD, and so are the ends of what an int holds. */
    void badOutside(String call, Supplier<NoiseTithe> made, int least, int greatest, Tried tried) {
        for (int v : new int[] {least - 1, greatest + 1, MIN, MAX}) {
            NoiseTithe x = made.get();
            bad(call + ", tried with " + v, x, () -> tried.with(x, v));
        }
    }

    /** Each of some numbers is answered by a FINDING. */
    void foundFor(int finding, String call, Supplier<NoiseTithe> made, Tried tried, int... values) {
        for (int v : values) {
            NoiseTithe x = made.get();
            check.found(call + ", tried with " + v, x, () -> tried.with(x, v), finding);
        }
    }

    /** Each of some numbers is refused, or answered by NONE. */
    void refusedFor(int refusal, String call, Supplier<NoiseTithe> made, Tried tried, int... values) {
        for (int v : values) {
            NoiseTithe x = made.get();
            check.refused(call + ", tried with " + v, x, () -> tried.with(x, v), refusal);
        }
    }

    /** Each number of a range's ends is taken: the call answers neither a refusal nor NONE. */
    void taken(String call, Supplier<NoiseTithe> made, Tried tried, int... values) {
        for (int v : values) {
            due(call + ", taken with " + v, Math.min(tried.with(made.get(), v), 0), 0);
        }
    }
}
