/** Promises 26 to 32: from ripples who was loud, sentence by sentence. */
final class BoundsOfWhoWasLoud extends Bounds {
    /** RIPPLES 2 3 5 and a MUTE. */
    private static final String FOUR = "a00 h20 h40 h70 u90";

    BoundsOfWhoWasLoud(Sentences sentences) {
        super(sentences);
    }

    void hold() {
        fits();
        sure();
        odds();
        thunder();
        joined();
        joinedRefused();
        silence();
        silenceRefused();
        rises();
    }

    private static NoiseTithe four() {
        return street(FOUR);
    }

    private void fits() {
        s.promise(26, "How many sets FIT a rise v (0 .. 200)", () -> {
            NoiseTithe x = street(FORGES);
            told("fits(128): all are loud", x, x.fits(128), 1, 255);
            told("fits(0): none is loud", x, x.fits(0), 1, 0);
            taken("fits(v)", () -> street(STILL), (y, v) -> y.fits(v), 0);
            NoiseTithe still = street(STILL);
            told("fits(0) of 8 without RIPPLE", still, still.fits(0), 256, 0);
            NoiseTithe mutes = street("a00 u90 u90 u90 u90 u90 u90 u90 u90");
            told("fits(0) of 8 MUTE ones", mutes, mutes.fits(0), 1, 0);
            NoiseTithe none = fresh();
            told("fits(0) without HOUSES", none, none.fits(0), 1, 0);
        });
        s.promise(26, "the least one (bits) by asked()", () -> {
            NoiseTithe x = four();
            told("fits(5): 1 and 2, or 4", x, x.fits(5), 2, 3);
            told("fits(2): 1 alone", x, x.fits(2), 1, 1);
            NoiseTithe last = street("a70 h00 h00 h00 h00 h00 h00 h00 h10");
            told("fits(1): the last one of 8", last, last.fits(1), 128, 128);
        });
        s.promise(26, "NONE: none.", () -> {
            refusedFor(NONE, "fits(v)", BoundsOfWhoWasLoud::four, (x, v) -> x.fits(v), 1, 4, 6, 9, 11, 200);
            refusedFor(NONE, "fits(v) without HOUSES", Bounds::fresh, (x, v) -> x.fits(v), 1, 200);
            refusedFor(NONE, "fits(v) of 8 FORGES", () -> street(FORGES), (x, v) -> x.fits(v), 1, 127, 129, 200);
        });
        s.promise(26, "BAD.", () -> {
            badOutside("fits(v)", BoundsOfWhoWasLoud::four, 0, 200, (x, v) -> x.fits(v));
            badOutside("fits(v) without HOUSES", Bounds::fresh, 0, 200, (x, v) -> x.fits(v));
        });
    }

    private void sure() {
        s.promise(27, "HOUSES that are in all sets that FIT a rise", () -> {
            NoiseTithe x = street(FORGES);
            told("sure(128): all", x, x.sure(128), 255, 0);
            told("sure(0): none", x, x.sure(0), 0, 255);
            NoiseTithe still = street(STILL);
            told("sure(0) of 256 sets", still, still.sure(0), 0, 0);
        });
        s.promise(27, "those that are in none (MUTE ones, too) by asked()", () -> {
            NoiseTithe x = four();
            told("sure(10): all but the MUTE", x, x.sure(10), 7, 8);
            told("sure(0)", x, x.sure(0), 0, 15);
            told("sure(5)", x, x.sure(5), 0, 8);
            NoiseTithe none = fresh();
            told("sure(0) without HOUSES", none, none.sure(0), 0, 0);
        });
        s.promise(27, "BAD", () -> badOutside("sure(v)", BoundsOfWhoWasLoud::four, 0, 200, (x, v) -> x.sure(v)));
        s.promise(27, "NOUGHT: none FITS.", () -> {
            foundFor(NOUGHT, "sure(v)", BoundsOfWhoWasLoud::four, (x, v) -> x.sure(v), 1, 11, 200);
            foundFor(NOUGHT, "sure(v) without HOUSES", Bounds::fresh, (x, v) -> x.sure(v), 1, 200);
        });
    }

    private void oddsAre(String text, int i, int v, int with, int upper, int lower) {
        NoiseTithe x = street(text);
        String call = "odds(" + i + ", " + v + ") of " + text;
        told(call, x, x.odds(i, v), with, 0);
        due("upper() behind " + call, x.upper(), upper);
        due("lower() behind " + call, x.lower(), lower);
    }

    private void odds() {
        s.promise(28, "told by upper(), lower(): in how many", () -> {
            oddsAre(FOUR, 0, 0, 0, 0, 1);
            oddsAre(FOUR, 3, 5, 0, 0, 1);
            oddsAre(FOUR, 0, 5, 1, 1, 2);
            oddsAre(FOUR, 2, 10, 1, 1, 1);
            oddsAre(STILL, 7, 0, 128, 1, 2);
            oddsAre("a70 h00 h00 h00 h00 h00 h00 h00 h10", 7, 1, 128, 1, 1);
        });
        s.promise(28, "BAD", () -> {
            badOutside("odds(i, 5)", BoundsOfWhoWasLoud::four, 0, 3, (x, i) -> x.odds(i, 5));
            badOutside("odds(0, v)", BoundsOfWhoWasLoud::four, 0, 200, (x, v) -> x.odds(0, v));
            badOutside("odds(i, 1): ahead of NOUGHT", BoundsOfWhoWasLoud::four, 0, 3, (x, i) -> x.odds(i, 1));
            refusedFor(BAD, "odds(i, 0) without HOUSES", Bounds::fresh, (x, i) -> x.odds(i, 0), 0);
        });
        s.promise(28, "NOUGHT", () ->
                foundFor(NOUGHT, "odds(0, v)", BoundsOfWhoWasLoud::four, (x, v) -> x.odds(0, v), 1, 4, 11, 200));
    }

    private void thunder() {
        s.promise(29, "Thunder of w (1 .. 50)", () -> {
            NoiseTithe x = four();
            due("thunder(1, 1): 0 and 1", x.thunder(1, 1), 2);
            due("thunder(50, 50): 0 and 50", x.thunder(50, 50), 2);
            due("thunder(60, 50): 10 and 50", x.thunder(60, 50), 2);
            due("thunder(61, 50): 11 and 50", x.thunder(61, 50), 0);
        });
        s.promise(29, "by a set alone (1), by a set and thunder (2), by either (3), by neither (0)", () -> {
            NoiseTithe x = four();
            due("thunder(2, 1): 2, not 1", x.thunder(2, 1), 1);
            due("thunder(6, 1): not 6, 5", x.thunder(6, 1), 2);
            due("thunder(3, 1): 3, 2", x.thunder(3, 1), 3);
            due("thunder(12, 1): not 12, not 11", x.thunder(12, 1), 0);
            due("thunder(0, 50): 0, none below 0", x.thunder(0, 50), 1);
            due("thunder(2, 2): 2, 0", x.thunder(2, 2), 3);
            due("thunder(2, 3): 2, none below 0", x.thunder(2, 3), 1);
            due("thunder(1, 50): not 1, none below 0", x.thunder(1, 50), 0);
            due("thunder(200, 50)", x.thunder(200, 50), 0);
            due("thunder(0, 1) without HOUSES", fresh().thunder(0, 1), 1);
            due("thunder(1, 1) without HOUSES", fresh().thunder(1, 1), 2);
            due("thunder(2, 1) without HOUSES", fresh().thunder(2, 1), 0);
        });
        s.promise(29, "BAD.", () -> {
            badOutside("thunder(v, 1)", BoundsOfWhoWasLoud::four, 0, 200, (x, v) -> x.thunder(v, 1));
            badOutside("thunder(5, w)", BoundsOfWhoWasLoud::four, 1, 50, (x, w) -> x.thunder(5, w));
        });
    }

    private void joinedIs(String text, int want, int... rises) {
        NoiseTithe x = withRow(street(text), 5, rises);
        int asked = x.asked();
        told("joined(5) of " + rises.length + " HOURS, " + text, x, x.joined(5), want, asked);
    }

    private void joined() {
        s.promise(30, "(0 .. 200 each)", () -> {
            joinedIs(FOUR, 1, 0);
            joinedIs(FOUR, 0, 200);
            joinedIs(FOUR, 0, 0, 200);
            joinedIs(FORGES, 9, 128);
        });
        s.promise(30, "one set loud in all of them but for one HOUSE that joined in one HOUR alone, or none", () -> {
            joinedIs(FOUR, 1, 3, 3, 5);
            joinedIs(FOUR, 1, 5, 3, 3);
            joinedIs(FOUR, 0, 5, 3, 5);
            joinedIs(FOUR, 1, 0, 5, 0, 0);
            joinedIs(FOUR, 0, 0, 10, 0);
            joinedIs(FOUR, 0, 3, 5, 0);
            joinedIs(FOUR, 0, 3, 3, 2);
        });
        s.promise(30, "with a RIPPLE of 0 each HOUR is a way", () -> {
            joinedIs("a00 h00", 3, 0);
            joinedIs("a00 h00", 5, 0, 0, 0);
            joinedIs("a00 u90", 1, 0, 0, 0);
            joinedIs(STILL, 256 + 8 * 128 * 40, new int[40]);
        });
        s.promise(30, "or set alone", () -> {
            joinedIs(FOUR, 2, 5, 5);
            joinedIs(FOUR, 5, 5);
            joinedIs("a00", 1, 0, 0);
            joinedIs("a00", 0, 0, 1);
        });
    }

    private void joinedRefused() {
        s.promise(30, "BAD", () -> badOutside("joined(r)", BoundsOfWhoWasLoud::four, 0, 5, (x, r) -> x.joined(r)));
        s.promise(30, "NOTHING", () ->
                foundFor(NOTHING, "joined(r)", BoundsOfWhoWasLoud::four, (x, r) -> x.joined(r), 0, 5));
        s.promise(30, "SIZE: none", () -> {
            foundFor(SIZE, "joined(r) of an empty ROW", () -> withRow(four(), 2), (x, r) -> x.joined(r), 2);
            foundFor(SIZE, "joined(r) of an empty ROW without HOUSES", () -> withRow(fresh(), 2), (x, r) -> x.joined(r), 2);
        });
        s.promise(30, "UNLIKE.", () -> {
            for (int wrong : new int[] {-1, 201, MIN, MAX}) {
                foundFor(UNLIKE, "joined(r), first " + wrong, () -> withRow(four(), 0, wrong, 5), (x, r) -> x.joined(r), 0);
                foundFor(UNLIKE, "joined(r), last " + wrong, () -> withRow(four(), 0, 5, 5, wrong), (x, r) -> x.joined(r), 0);
            }
            int[] full = new int[40];
            full[39] = 201;
            foundFor(UNLIKE, "joined(r), a full ROW", () -> withRow(four(), 0, full), (x, r) -> x.joined(r), 0);
            foundFor(UNLIKE, "joined(r) without HOUSES", () -> withRow(fresh(), 0, -1), (x, r) -> x.joined(r), 0);
        });
    }

    private void silenceIs(String text, int v, int want, int in) {
        NoiseTithe x = street(text);
        told("silence(" + v + ") of " + text, x, x.silence(v), want, in);
    }

    private void silence() {
        s.promise(31, "it is in nearest the half of all sets that FIT (the first)", () -> {
            silenceIs(FOUR, 5, 0, 1);
            silenceIs(FOUR, 0, 0, 0);
            silenceIs(FOUR, 10, 0, 1);
            silenceIs(STILL, 0, 0, 128);
            silenceIs("a00 u90 h90 h01", 0, 2, 1);
            silenceIs("a00 u90 h60", 5, 0, 0);
            silenceIs("a00 h90 u90", 9, 0, 1);
            silenceIs("a00 h20 h30 h40", 2, 0, 1);
            silenceIs("a00 h20 h30 h40", 4, 0, 2);
        });
        s.promise(31, "in how many by asked()", () -> {
            silenceIs(FORGES, 128, 0, 1);
            silenceIs(FORGES, 0, 0, 0);
            silenceIs("a70 h00 h00 h00 h00 h00 h00 h00 h10", 1, 0, 64);
        });
    }

    private void silenceRefused() {
        s.promise(31, "NONE: no HOUSES.", () -> {
            refusedFor(NONE, "silence(v) of a new object", Bounds::fresh, (x, v) -> x.silence(v), 0);
            refusedFor(NONE, "silence(v) of a STREET without HOUSES", () -> street("a99"), (x, v) -> x.silence(v), 0);
        });
        s.promise(31, "BAD", () -> {
            badOutside("silence(v)", BoundsOfWhoWasLoud::four, 0, 200, (x, v) -> x.silence(v));
            badOutside("silence(v) without HOUSES", Bounds::fresh, 0, 200, (x, v) -> x.silence(v));
        });
        s.promise(31, "NOUGHT", () -> {
            foundFor(NOUGHT, "silence(v)", BoundsOfWhoWasLoud::four, (x, v) -> x.silence(v), 1, 4, 11, 200);
            foundFor(NOUGHT, "silence(v) without HOUSES", Bounds::fresh, (x, v) -> x.silence(v), 1, 200);
        });
    }

    private void rises() {
        s.promise(32, "How many unlike rises all sets (without MUTE ones) can make", () -> {
            due("of 8 without RIPPLE: 0", street(STILL).rises(), 1);
            due("of a MUTE: 0", street("a00 u90").rises(), 1);
            due("of one: 0 9", street("a00 h90").rises(), 2);
            due("of two alike: 0 8 16", street("a00 h80 h90").rises(), 3);
            due("of four: 0 2 3 5 7 8 10", four().rises(), 7);
        });
        s.promise(32, "the greatest by asked()", () -> {
            NoiseTithe x = street(FORGES);
            x.rises();
            due("of 8 FORGES", x.asked(), 128);
            NoiseTithe still = street(STILL);
            still.rises();
            due("of 8 without RIPPLE", still.asked(), 0);
            NoiseTithe mute = street("a00 u90 h90");
            mute.rises();
            due("of a MUTE and a HOUSE", mute.asked(), 8);
        });
        s.promise(32, "STATE: no HOUSES.", () -> {
            refusedFor(STATE, "rises() of a new object", Bounds::fresh, (x, v) -> x.rises(), 0);
            refusedFor(STATE, "rises() of a STREET without HOUSES", () -> street("a99"), (x, v) -> x.rises(), 0);
        });
    }
}
