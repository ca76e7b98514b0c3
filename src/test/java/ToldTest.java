/** Promises 44 to 50: what is told. */
public final class ToldTest {
    private static final Check CHECK = new Check();

    public static void main(String[] args) {
        asked();
        fraction();
        count();
        countRefused();
        finding();
        digest();
        digestHasEachPart();
        CHECK.end();
    }

    private static void asked() {
        NoiseTithe x = Check.street(Check.ALL_KINDS);
        Check.fillRow(x, 0, 8, 8);
        CHECK.due("asked() at first", new NoiseTithe().asked(), 0);
        CHECK.told("rises()", x, x.rises(), 37, 38);
        x.row(1, 2);
        x.tear(1);
        x.copy(0, 0, 0, 0, 1);
        x.text(1, 3);
        x.put(1, 0, 5);
        x.fault(0);
        x.mark(1, 1);
        x.altar(3);
        x.wall(0, 1);
        x.made(0);
        x.pay(0, 1);
        x.keep(0);
        x.on(0);
        x.undo(0);
        x.odds(0, 8);
        x.thunder(8, 3);
        x.joined(0);
        x.feathers(3, 4, 5);
        x.debt(0, 1, 2);
        x.payments();
        x.net();
        x.sings();
        x.count(0);
        x.digest();
        x.findings(1);
        x.finding();
        x.upper();
        x.lower();
        x.street(0);
        CHECK.due("asked() behind calls that do not tell by it", x.asked(), 38);
    }

    private static void fraction() {
        NoiseTithe x = new NoiseTithe();
        CHECK.due("upper() at first", x.upper(), 0);
        CHECK.due("lower() at first", x.lower(), 1);
        Check.write(x, 0, "a00 h60 h20");
        x.street(0);
        x.sings();
        CHECK.due("upper() behind sings()", x.upper(), 7);
        CHECK.due("lower() behind sings()", x.lower(), 12);
        x.fits(1);
        CHECK.due("upper() behind fits()", x.upper(), 7);
        CHECK.due("lower() behind fits()", x.lower(), 12);
        x.odds(0, 1);
        CHECK.due("upper() behind odds()", x.upper(), 0);
        CHECK.due("lower() behind odds()", x.lower(), 1);
        x.odds(1, 1);
        CHECK.due("upper() behind odds() of all", x.upper(), 1);
        CHECK.due("lower() behind odds() of all", x.lower(), 1);
    }

    private static void countIs(NoiseTithe x, String what, int... want) {
        for (int k = 0; k <= 7; k++) {
            CHECK.due(what + ": count(" + k + ")", x.count(k), want[k]);
        }
    }

    private static void count() {
        NoiseTithe x = new NoiseTithe();
        countIs(x, "at first", 0, 0, 0, 0, 0, 0, 0, 0);
        Check.write(x, 1, Check.ALL_KINDS);
        x.row(2, 0);
        x.row(3, 9);
        x.row(5, 9);
        x.street(1);
        countIs(x, "a STREET", 8, 0, 2, 2, 2, 0, 3, 1);
        x.hour(9);
        x.hour(9);
        x.keep(1);
        x.hour(9);
        x.debt(3, 0, 1);
        countIs(x, "BELLS in debt", 8, 3, 2, 2, 2, 1, 3, 1);
        NoiseTithe first = Check.street("a00 b10 u10 f10");
        countIs(first, "BELLS at the first place", 3, 0, 1, 1, 1, 0, 0, 1);
        x.debt(5, 0, 1);
        x.text(3, 0);
        countIs(x, "a CHOIR in debt", 8, 3, 2, 2, 1, 1, 3, 2);
        x.on(1);
        x.keep(0);
        x.tear(2);
        countIs(x, "gone on", 8, 2, 2, 2, 2, 2, 2, 2);
    }

    private static void countRefused() {
        NoiseTithe x = new NoiseTithe();
        CHECK.refused("count(-1)", x, () -> x.count(-1), NoiseTithe.BAD);
        CHECK.refused("count(8)", x, () -> x.count(8), NoiseTithe.BAD);
        CHECK.refused("findings(0)", x, () -> x.findings(0), NoiseTithe.BAD);
        CHECK.refused("findings(6)", x, () -> x.findings(6), NoiseTithe.BAD);
        CHECK.refused("findings(-1)", x, () -> x.findings(-1), NoiseTithe.BAD);
        CHECK.refused("findings(max)", x, () -> x.findings(Integer.MAX_VALUE), NoiseTithe.BAD);
    }

    private static void finding() {
        NoiseTithe x = new NoiseTithe();
        CHECK.due("finding() at first", x.finding(), 0);
        for (int f = 1; f <= 5; f++) {
            CHECK.due("findings(" + f + ") at first", x.findings(f), 0);
        }
        CHECK.found("row(0, -1)", x, () -> x.row(0, -1), Check.SIZE);
        CHECK.found("text(0, -1)", x, () -> x.text(0, -1), Check.SIZE);
        CHECK.found("tear(0)", x, () -> x.tear(0), Check.NOTHING);
        x.row(0, 0);
        CHECK.found("mean(0)", x, () -> x.mean(0), Check.NOUGHT);
        CHECK.found("at(0, 0)", x, () -> x.at(0, 0), Check.BEYOND);
        CHECK.found("joined(0)", x, () -> x.joined(0), Check.SIZE);
        Check.fillRow(x, 0, 999);
        CHECK.found("joined(0) of 999", x, () -> x.joined(0), Check.UNLIKE);
        x.at(0, 0);
        x.row(0, 99);
        x.altar(5);
        CHECK.due("finding() behind calls without one", x.finding(), Check.UNLIKE);
        int[] want = {0, 1, 1, 1, 1, 3};
        for (int f = 1; f <= 5; f++) {
            CHECK.due("findings(" + f + ")", x.findings(f), want[f]);
        }
    }

    private static long digestOf(long... values) {
        long h = 17;
        for (long v : values) {
            h = 31 * h + v;
        }
        return h;
    }

    private static void digest() {
        NoiseTithe x = new NoiseTithe();
        CHECK.due("digest() at first", x.digest(), digestOf(
                0, 0, 0, 0, 0, 0, 0, 0, 0, 0, 0, 0, -1, -1, -1, -1, -1, -1, -1, -1, -1, -1, -1, -1, -1));
        Check.write(x, 2, "a12 c96 f90");
        x.street(2);
        x.wall(0, 3);
        x.hour(3);
        x.hour(2);
        x.keep(1);
        x.hour(2);
        x.hour(2);
        x.debt(0, 1, 8);
        x.debt(1, 0, 7);
        x.pay(1, 6);
        x.row(0, 0);
        Check.fillRow(x, 4, 5, -6);
        x.text(0, 2);
        x.put(0, 1, 255);
        x.fits(5);
        // of the CHOIR RIPPLE 5, of the FORGE 18: 23 - 2, 39 - 2, 55 - 2, 71: 11 run over
        CHECK.due("digest()", x.digest(), digestOf(
                2, 4, 0, 1, 0, 1, 2, 2, 1, 2, 58, 11,
                5, 9, 3, 9, 5, 5, 0, 0, 8,
                1, 9, 0, 18, 18, 72, 6, 7, 0,
                3, 2, 2, 2,
                -1, 2, -1,
                0, -1, -1, -1, 2, 5, -6, -1,
                2, 32, -1, -1, 11, 'a', '1', '2', 32, 'c', '9', '6', 32, 'f', '9', '0', -1));
        CHECK.due("asked() behind digest()", x.asked(), 1);
        CHECK.due("digest() again", x.digest(), x.digest());
        NoiseTithe none = Check.street("a98");
        CHECK.due("digest() without HOUSES", none.digest(), digestOf(
                0, 0, 0, 0, 0, 0, 0, 1, 0, 0, 0, 0, -1, -1, -1,
                -1, -1, -1, -1, -1, -1, 3, 'a', '9', '8', -1, -1, -1));
    }

    private static void digestHasEachPart() {
        NoiseTithe x = Check.street(Check.ALL_KINDS);
        long was = x.digest();
        x.altar(4);
        CHECK.due("another place of THE ALTAR", x.digest() != was ? 1 : 0, 1);
        x.altar(3);
        CHECK.due("THE ALTAR where it was", x.digest(), was);
        x.debt(7, 6, 1);
        CHECK.due("a DEBT", x.digest() != was ? 1 : 0, 1);
        x.debt(7, 6, 0);
        x.pay(7, 0);
        CHECK.due("no DEBT", x.digest(), was);
        x.keep(2);
        CHECK.due("a kept STREET", x.digest() != was ? 1 : 0, 1);
        NoiseTithe other = Check.street("a33 h91 f80 m92 b70 u50 c91 h62 f40");
        other.put(0, 2, '2');
        CHECK.due("another LEAK", other.digest() != was ? 1 : 0, 1);
    }
}
