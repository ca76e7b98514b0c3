import java.util.function.IntSupplier;

/** Compares answers with those that are due, and prints every one that is not as due. */
final class Check {
    static final int NOTHING = 1, BEYOND = 2, UNLIKE = 3, NOUGHT = 4, SIZE = 5;

    /** Eight HOUSES of all KINDS; SOUND 9 16 4 7 0 9 6 8, RIPPLE 5 14 1 7 0 6 1 4. */
    static final String ALL_KINDS = "a32 h91 f80 m92 b70 u50 c91 h62 f40";

    private int wrong = 0;
    private String about = "";

    /** What the answers from here on are about: it is printed ahead of each wrong one. */
    void about(String what) {
        about = what + ": ";
    }

    /** An object whose STREET is as a text says. */
    static NoiseTithe street(String text) {
        NoiseTithe x = new NoiseTithe();
        write(x, 0, text);
        x.street(0);
        return x;
    }

    static void write(NoiseTithe x, int t, String text) {
        x.text(t, text.length());
        for (int i = 0; i < text.length(); i++) {
            x.put(t, i, text.charAt(i));
        }
    }

    static void fillRow(NoiseTithe x, int r, int... values) {
        x.row(r, values.length);
        for (int i = 0; i < values.length; i++) {
            x.lay(r, i, values[i]);
        }
    }

    void due(String call, long got, long want) {
        if (got != want) {
            wrong++;
            System.out.println(about + call + " answered " + got + ", due is " + want);
        }
    }

    /** A call that also tells by asked(). */
    void told(String call, NoiseTithe x, int got, int want, int wantAsked) {
        due(call, got, want);
        due("asked() behind " + call, x.asked(), wantAsked);
    }

    void row(String what, NoiseTithe x, int r, int... want) {
        due(what + ": last place", x.at(r, want.length - 1), want.length == 0 ? NoiseTithe.FINDING : 1);
        due(what + ": none behind", x.at(r, want.length), NoiseTithe.FINDING);
        for (int i = 0; i < want.length; i++) {
            x.at(r, i);
            due(what + ": place " + i, x.asked(), want[i]);
        }
    }

    /** A call that is refused without a FINDING, or answers NONE: all stays as it was. */
    void refused(String call, NoiseTithe x, IntSupplier made, int want) {
        int finding = x.finding();
        refuse(call, x, made, want, 0);
        due("finding() behind " + call, x.finding(), finding);
    }

    /** A call that answers a FINDING: all stays as it was but finding(), findings(). */
    void found(String call, NoiseTithe x, IntSupplier made, int finding) {
        refuse(call, x, made, NoiseTithe.FINDING, finding);
        due("finding() behind " + call, x.finding(), finding);
    }

    private void refuse(String call, NoiseTithe x, IntSupplier made, int want, int finding) {
        long digest = x.digest();
        int asked = x.asked();
        long upper = x.upper();
        long lower = x.lower();
        int[] findings = new int[6];
        for (int f = 1; f <= 5; f++) {
            findings[f] = x.findings(f);
        }
        due(call, made.getAsInt(), want);
        due("digest() behind " + call, x.digest(), digest);
        due("asked() behind " + call, x.asked(), asked);
        due("upper() behind " + call, x.upper(), upper);
        due("lower() behind " + call, x.lower(), lower);
        for (int f = 1; f <= 5; f++) {
            due("findings(" + f + ") behind " + call, x.findings(f), findings[f] + (f == finding ? 1 : 0));
        }
    }

    void end() {
        System.out.println(wrong == 0 ? "all answers are as due" : wrong + " answers are not as due");
        if (wrong != 0) {
            System.exit(1);
        }
    }
}
