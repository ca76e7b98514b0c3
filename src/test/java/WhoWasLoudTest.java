/** Promises 26 to 32: from ripples who was loud. */
public final class WhoWasLoudTest {
    /** RIPPLES 2 3 5 2 0 (a MUTE) 0 (a HOUSE behind its WALL). */
    private static final String SIX = "a00 h20 h40 h70 b50 u90 h12";

    private static final Check CHECK = new Check();

    public static void main(String[] args) {
        fits();
        sure();
        odds();
        thunder();
        joined();
        joinedByMany();
        joinedRefused();
        silence();
        rises();
        CHECK.end();
    }

    private static void fits() {
        NoiseTithe x = Check.street(SIX);
        CHECK.told("fits(0)", x, x.fits(0), 2, 0);
        CHECK.told("fits(2)", x, x.fits(2), 4, 1);
        CHECK.told("fits(3)", x, x.fits(3), 2, 2);
        CHECK.told("fits(4)", x, x.fits(4), 2, 9);
        CHECK.told("fits(5)", x, x.fits(5), 6, 3);
        CHECK.told("fits(12)", x, x.fits(12), 2, 15);
        CHECK.refused("fits(1)", x, () -> x.fits(1), NoiseTithe.NONE);
        CHECK.refused("fits(13)", x, () -> x.fits(13), NoiseTithe.NONE);
        CHECK.refused("fits(200)", x, () -> x.fits(200), NoiseTithe.NONE);
        CHECK.refused("fits(201)", x, () -> x.fits(201), NoiseTithe.BAD);
        CHECK.refused("fits(-1)", x, () -> x.fits(-1), NoiseTithe.BAD);
        x.wall(0, 1);
        CHECK.told("fits(1) behind another WALL", x, x.fits(1), 2, 1);
        NoiseTithe none = new NoiseTithe();
        CHECK.told("fits(0) without HOUSES", none, none.fits(0), 1, 0);
        CHECK.refused("fits(1) without HOUSES", none, () -> none.fits(1), NoiseTithe.NONE);
        NoiseTithe loud = Check.street("a40 f90 f90 f90 f90 f90 f90 f90 f90");
        CHECK.told("fits(128)", loud, loud.fits(144 - 16), 1, 255);
        NoiseTithe still = Check.street("a00 h00 h00 h00 h00 h00 h00 h00 h00");
        CHECK.told("fits(0) of all sets", still, still.fits(0), 256, 0);
    }

    private static void sure() {
        NoiseTithe x = Check.street(SIX);
        CHECK.told("sure(0)", x, x.sure(0), 0, 31);
        CHECK.told("sure(2)", x, x.sure(2), 0, 22);
        CHECK.told("sure(5)", x, x.sure(5), 0, 16);
        CHECK.told("sure(7): 1 3 4 or 3 and 1 and 4 ...", x, x.sure(7), 0, 16);
        CHECK.told("sure(8)", x, x.sure(8), 6, 25);
        CHECK.told("sure(10)", x, x.sure(10), 6, 16);
        CHECK.told("sure(12)", x, x.sure(12), 15, 16);
        CHECK.found("sure(1)", x, () -> x.sure(1), Check.NOUGHT);
        CHECK.refused("sure(-1)", x, () -> x.sure(-1), NoiseTithe.BAD);
        CHECK.refused("sure(201)", x, () -> x.sure(201), NoiseTithe.BAD);
        CHECK.found("sure(200)", x, () -> x.sure(200), Check.NOUGHT);
        NoiseTithe none = new NoiseTithe();
        x.fits(0);
        CHECK.told("sure(0) without HOUSES", none, none.sure(0), 0, 0);
        CHECK.found("sure(1) without HOUSES", none, () -> none.sure(1), Check.NOUGHT);
    }

    private static void oddsAre(NoiseTithe x, int i, int v, int with, int upper, int lower) {
        String call = "odds(" + i + ", " + v + ")";
        int asked = x.asked();
        CHECK.told(call, x, x.odds(i, v), with, asked);
        CHECK.due("upper() behind " + call, x.upper(), upper);
        CHECK.due("lower() behind " + call, x.lower(), lower);
    }

    private static void odds() {
        NoiseTithe x = Check.street(SIX);
        oddsAre(x, 0, 5, 2, 1, 3);
        oddsAre(x, 1, 5, 4, 2, 3);
        oddsAre(x, 2, 5, 2, 1, 3);
        oddsAre(x, 3, 5, 2, 1, 3);
        oddsAre(x, 4, 5, 0, 0, 1);
        oddsAre(x, 5, 5, 3, 1, 2);
        oddsAre(x, 2, 12, 2, 1, 1);
        CHECK.found("odds(0, 1)", x, () -> x.odds(0, 1), Check.NOUGHT);
        CHECK.refused("odds(-1, 5)", x, () -> x.odds(-1, 5), NoiseTithe.BAD);
        CHECK.refused("odds(6, 5)", x, () -> x.odds(6, 5), NoiseTithe.BAD);
        CHECK.refused("odds(6, 1): BAD ahead of NOUGHT", x, () -> x.odds(6, 1), NoiseTithe.BAD);
        CHECK.refused("odds(0, -1)", x, () -> x.odds(0, -1), NoiseTithe.BAD);
        CHECK.refused("odds(0, 201)", x, () -> x.odds(0, 201), NoiseTithe.BAD);
        CHECK.found("odds(0, 200)", x, () -> x.odds(0, 200), Check.NOUGHT);
    }

    private static void thunder() {
        NoiseTithe x = Check.street(SIX);
        CHECK.due("thunder(2, 3): 2, not -1", x.thunder(2, 3), 1);
        CHECK.due("thunder(2, 2): 2, 0", x.thunder(2, 2), 3);
        CHECK.due("thunder(6, 1): not 6, 5", x.thunder(6, 1), 2);
        CHECK.due("thunder(2, 1): 2, not 1", x.thunder(2, 1), 1);
        CHECK.due("thunder(14, 1): not 14, not 13", x.thunder(14, 1), 0);
        CHECK.due("thunder(62, 50): not 62, 12", x.thunder(62, 50), 2);
        CHECK.due("thunder(200, 50)", x.thunder(200, 50), 0);
        CHECK.due("thunder(0, 50)", x.thunder(0, 50), 1);
        CHECK.due("asked() behind thunder", x.asked(), 0);
        CHECK.refused("thunder(-1, 1)", x, () -> x.thunder(-1, 1), NoiseTithe.BAD);
        CHECK.refused("thunder(201, 1)", x, () -> x.thunder(201, 1), NoiseTithe.BAD);
        CHECK.refused("thunder(2, 0)", x, () -> x.thunder(2, 0), NoiseTithe.BAD);
        CHECK.refused("thunder(2, 51)", x, () -> x.thunder(2, 51), NoiseTithe.BAD);
        NoiseTithe none = new NoiseTithe();
        CHECK.due("thunder(0, 7) without HOUSES", none.thunder(0, 7), 1);
        CHECK.due("thunder(7, 7) without HOUSES", none.thunder(7, 7), 2);
        CHECK.due("thunder(8, 7) without HOUSES", none.thunder(8, 7), 0);
    }

    private static void joinedIs(NoiseTithe x, String what, int want, int... rises) {
        Check.fillRow(x, 2, rises);
        int asked = x.asked();
        CHECK.told("joined: " + what, x, x.joined(2), want, asked);
    }

    private static void joined() {
        NoiseTithe x = Check.street("a00 h20 h40 u90");
        joinedIs(x, "none, or 0, in HOUR 1", 1, 0, 2, 0);
        joinedIs(x, "1 joined 0 in HOUR 2", 1, 2, 2, 5);
        joinedIs(x, "0 joined 1 in HOUR 0", 1, 5, 3, 3);
        joinedIs(x, "both alone", 1, 5, 5, 5);
        joinedIs(x, "0 went", 0, 3, 3, 0);
        joinedIs(x, "joined twice", 0, 2, 5, 5, 2);
        joinedIs(x, "two joined", 0, 0, 5, 0);
        joinedIs(x, "one HOUR: both, 0 joined 1, 1 joined 0", 3, 5);
        joinedIs(x, "two HOURS: 0 in the first; 0 in the other one", 1, 0, 2);
        joinedIs(x, "two HOURS alike", 1, 2, 2);
        joinedIs(x, "no such rise", 0, 1, 1);
        joinedIs(x, "no such rise in one HOUR", 0, 2, 2, 4);
        joinedIs(x, "a rise of 200", 0, 200, 200);
    }

    private static void joinedByMany() {
        NoiseTithe x = Check.street("a00 h20 h12 u90 h50");
        joinedIs(x, "RIPPLES 2 0 - 2, all HOURS 0: {} alone, with 1 in any of 3, {1}", 5, 0, 0, 0);
        joinedIs(x, "0 or 3 in HOUR 0, with {} or {1}", 4, 2, 0, 0);
        joinedIs(x, "0 or 3 in all HOURS: with 1, without 1, 1 in any of 2", 8, 2, 2);
        NoiseTithe none = new NoiseTithe();
        joinedIs(none, "0 without HOUSES", 1, 0, 0);
        joinedIs(none, "1 without HOUSES", 0, 0, 1);
        NoiseTithe still = Check.street("a00 h00 h00 h00 h00 h00 h00 h00 h00");
        joinedIs(still, "all sets, all HOURS", 256 + 1024 * 40, new int[40]);
    }

    private static void joinedRefused() {
        NoiseTithe x = Check.street(SIX);
        CHECK.found("joined(0) without the ROW", x, () -> x.joined(0), Check.NOTHING);
        CHECK.refused("joined(-1)", x, () -> x.joined(-1), NoiseTithe.BAD);
        CHECK.refused("joined(6)", x, () -> x.joined(6), NoiseTithe.BAD);
        x.row(0, 0);
        CHECK.found("joined(0) of none", x, () -> x.joined(0), Check.SIZE);
        Check.fillRow(x, 0, 2, 201);
        CHECK.found("joined(0) of 2 201", x, () -> x.joined(0), Check.UNLIKE);
        Check.fillRow(x, 0, -1, 2);
        CHECK.found("joined(0) of -1 2", x, () -> x.joined(0), Check.UNLIKE);
        Check.fillRow(x, 5, 200);
        CHECK.due("joined(5) of 200", x.joined(5), 0);
    }

    private static void silence() {
        NoiseTithe x = Check.street(SIX);
        CHECK.told("silence(0): in 0 0 0 0 0 1 of 2", x, x.silence(0), 5, 1);
        CHECK.told("silence(2): in 2 0 0 2 0 2 of 4", x, x.silence(2), 0, 2);
        CHECK.told("silence(5): in 2 4 2 2 0 3 of 6", x, x.silence(5), 5, 3);
        CHECK.told("silence(12): in 2 2 2 2 0 1 of 2", x, x.silence(12), 5, 1);
        CHECK.found("silence(1)", x, () -> x.silence(1), Check.NOUGHT);
        CHECK.refused("silence(-1)", x, () -> x.silence(-1), NoiseTithe.BAD);
        CHECK.refused("silence(201)", x, () -> x.silence(201), NoiseTithe.BAD);
        CHECK.found("silence(200)", x, () -> x.silence(200), Check.NOUGHT);
        NoiseTithe three = Check.street("a00 h20 h30 h40");
        CHECK.told("silence(2): in 1 1 1 of 3", three, three.silence(2), 0, 1);
        CHECK.told("silence(4): in 2 2 2 of 3", three, three.silence(4), 0, 2);
        NoiseTithe little = Check.street("a00 h20 h20 h40 h60");
        CHECK.told("silence(3): in 1 2 1 1 of 3", little, little.silence(3), 0, 1);
        NoiseTithe much = Check.street("a00 h10 h30 h40 h60");
        CHECK.told("silence(3): in 2 1 1 1 of 3", much, much.silence(3), 0, 2);
        NoiseTithe none = new NoiseTithe();
        CHECK.refused("silence(0) without HOUSES", none, () -> none.silence(0), NoiseTithe.NONE);
        CHECK.refused("silence(201) without HOUSES", none, () -> none.silence(201), NoiseTithe.BAD);
        CHECK.found("silence(1) without HOUSES: refused ahead of NONE", none, () -> none.silence(1), Check.NOUGHT);
    }

    private static void rises() {
        NoiseTithe x = Check.street(SIX);
        CHECK.told("rises(): 0 2 3 4 5 7 8 9 10 12", x, x.rises(), 10, 12);
        NoiseTithe all = Check.street(Check.ALL_KINDS);
        CHECK.told("rises(): 0 to 38 without 3, 35", all, all.rises(), 37, 38);
        CHECK.told("rises() again", all, all.rises(), 37, 38);
        CHECK.told("hours(68, 1) behind rises()", all, all.hours(68, 1), 2, 4);
        all.rises();
        CHECK.due("payments() behind rises()", all.payments(), 0);
        CHECK.told("wedding(59) behind rises()", all, all.wedding(59), 38, 239);
        NoiseTithe mute = Check.street("a00 u50");
        CHECK.told("rises() of a MUTE", mute, mute.rises(), 1, 0);
        NoiseTithe none = new NoiseTithe();
        CHECK.refused("rises() without HOUSES", none, none::rises, NoiseTithe.STATE);
    }
}
