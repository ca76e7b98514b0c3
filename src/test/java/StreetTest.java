/** Promises 8 to 15: TEXTS, and the STREETS that they tell. */
public final class StreetTest {
    private static final Check CHECK = new Check();

    public static void main(String[] args) {
        text();
        put();
        fault();
        faultRefused();
        street();
        streetAnew();
        house();
        mark();
        markUnlike();
        markChanges();
        altar();
        wall();
        CHECK.end();
    }

    private static void text() {
        NoiseTithe x = new NoiseTithe();
        CHECK.due("text(0, 3)", x.text(0, 3), 3);
        CHECK.due("put(0, 2, 97) onto a blank", x.put(0, 2, 97), 1032);
        CHECK.due("text(0, 4) anew", x.text(0, 4), 4);
        CHECK.due("put(0, 2, 97) onto a blank anew", x.put(0, 2, 97), 1032);
        CHECK.due("text(3, 80)", x.text(3, 80), 80);
        CHECK.due("put(3, 79, 1)", x.put(3, 79, 1), 1032);
        CHECK.due("text(1, 0)", x.text(1, 0), 0);
        CHECK.due("count(7)", x.count(7), 3);
        CHECK.refused("text(-1, 3)", x, () -> x.text(-1, 3), NoiseTithe.BAD);
        CHECK.refused("text(4, 3)", x, () -> x.text(4, 3), NoiseTithe.BAD);
        CHECK.refused("text(4, -1)", x, () -> x.text(4, -1), NoiseTithe.BAD);
        CHECK.refused("text(0, 81)", x, () -> x.text(0, 81), NoiseTithe.BAD);
        CHECK.found("text(0, -1)", x, () -> x.text(0, -1), Check.SIZE);
    }

    private static void put() {
        NoiseTithe x = new NoiseTithe();
        CHECK.found("put(0, 0, 1) without the TEXT", x, () -> x.put(0, 0, 1), Check.NOTHING);
        x.text(0, 2);
        CHECK.due("put(0, 1, 200)", x.put(0, 1, 200), 1032);
        CHECK.due("put(0, 1, -128)", x.put(0, 1, -128), 1000 - 56);
        CHECK.due("put(0, 1, 127)", x.put(0, 1, 127), 1000 - 128);
        CHECK.due("put(0, 1, -129)", x.put(0, 1, -129), 1127);
        CHECK.due("put(0, 1, 256)", x.put(0, 1, 256), 1127);
        CHECK.due("put(0, 1, 0)", x.put(0, 1, 0), 1000);
        CHECK.due("put(0, 0, 5)", x.put(0, 0, 5), 1032);
        CHECK.due("asked() behind put", x.asked(), 0);
        CHECK.refused("put(-1, 0, 1)", x, () -> x.put(-1, 0, 1), NoiseTithe.BAD);
        CHECK.refused("put(4, 0, 1)", x, () -> x.put(4, 0, 1), NoiseTithe.BAD);
        CHECK.found("put(0, -1, 1)", x, () -> x.put(0, -1, 1), Check.BEYOND);
        CHECK.found("put(0, 2, 1)", x, () -> x.put(0, 2, 1), Check.BEYOND);
        CHECK.found("put(1, 9, 1): NOTHING ahead of BEYOND", x, () -> x.put(1, 9, 1), Check.NOTHING);
    }

    private static void fault(String text, int want) {
        NoiseTithe x = new NoiseTithe();
        Check.write(x, 2, text);
        long digest = x.digest();
        CHECK.due("fault of '" + text + "'", x.fault(2), want);
        CHECK.due("digest() behind fault of '" + text + "'", x.digest(), digest);
        if (want >= 0) {
            CHECK.refused("street of '" + text + "'", x, () -> x.street(2), NoiseTithe.STATE);
        } else {
            CHECK.due("street of '" + text + "'", x.street(2) >= 0 ? 1 : 0, 1);
        }
    }

    private static void fault() {
        fault(Check.ALL_KINDS, NoiseTithe.NONE);
        fault("a00", NoiseTithe.NONE);
        fault("   a99   h00   ", NoiseTithe.NONE);
        fault("a32h91f80m92b70u50c91", NoiseTithe.NONE);
        fault("", 0);
        fault("    ", 4);
        fault("h32", 0);
        fault("  b32", 2);
        fault("A32", 0);
        fault("a", 1);
        fault("a3", 2);
        fault(" a3", 3);
        fault("a ", 1);
        fault("a 3", 1);
        fault("a3 2", 2);
        fault("ax2", 1);
        fault("a3x", 2);
        fault("a/2", 1);
        fault("a:2", 1);
        fault("a3/", 2);
        fault("a3:", 2);
        fault("a32 a32", 4);
        fault("a32 x11", 4);
        fault("a32 h", 5);
        fault("a32 h1", 6);
        fault("a32 h1 1", 6);
        fault("a32 h11 f1f", 10);
        fault("a32 h111", 7);
        fault("a32 11h", 4);
        fault("a32 h11 H11", 8);
        fault("a32 h11 f11 m11 b11 u11 c11 h11 f11", NoiseTithe.NONE);
        fault("a32 h11 f11 m11 b11 u11 c11 h11 f11 h11", 36);
        fault("a32 h11 f11 m11 b11 u11 c11 h11 f11 ", NoiseTithe.NONE);
        fault("a32h11h11h11h11h11h11h11h11c", 27);
        fault("a32 h1\u00b1", 6);
    }

    private static void faultRefused() {
        NoiseTithe x = new NoiseTithe();
        CHECK.found("fault(0) without the TEXT", x, () -> x.fault(0), Check.NOTHING);
        CHECK.refused("fault(-1)", x, () -> x.fault(-1), NoiseTithe.BAD);
        CHECK.refused("fault(4)", x, () -> x.fault(4), NoiseTithe.BAD);
        Check.write(x, 3, "a1");
        CHECK.due("fault(3)", x.fault(3), 2);
    }

    private static void street() {
        NoiseTithe x = new NoiseTithe();
        CHECK.found("street(0) without the TEXT", x, () -> x.street(0), Check.NOTHING);
        CHECK.refused("street(-1)", x, () -> x.street(-1), NoiseTithe.BAD);
        CHECK.refused("street(4)", x, () -> x.street(4), NoiseTithe.BAD);
        Check.write(x, 3, "  a47 c95h10");
        CHECK.due("street(3)", x.street(3), 2);
        CHECK.due("count(0)", x.count(0), 2);
        CHECK.told("house(0, 0)", x, x.house(0, 0), 1, 5);
        CHECK.told("house(0, 1)", x, x.house(0, 1), 1, 9);
        CHECK.told("house(0, 2)", x, x.house(0, 2), 1, 5);
        CHECK.told("house(1, 0)", x, x.house(1, 0), 1, 0);
        CHECK.told("house(1, 1)", x, x.house(1, 1), 1, 1);
        CHECK.told("house(1, 2)", x, x.house(1, 2), 1, 0);
        CHECK.due("altar(4)", x.altar(4), 4);
        x.text(3, 0);
        CHECK.due("count(0) when the TEXT is another", x.count(0), 2);
        Check.write(x, 1, "a99");
        CHECK.due("street(1) without HOUSES", x.street(1), 0);
        CHECK.due("count(0) without HOUSES", x.count(0), 0);
        CHECK.refused("house(0, 0) without HOUSES", x, () -> x.house(0, 0), NoiseTithe.BAD);
    }

    private static void streetAnew() {
        NoiseTithe fresh = Check.street(Check.ALL_KINDS);
        NoiseTithe x = Check.street(Check.ALL_KINDS);
        x.keep(2);
        x.hour(255);
        x.hour(255);
        x.pay(1, 5);
        x.debt(0, 7, 9);
        x.debt(7, 0, 9);
        x.wall(0, 50);
        x.altar(9);
        x.keep(0);
        CHECK.due("count(5) ahead of street(0)", x.count(5), 2);
        CHECK.due("street(0) anew", x.street(0), 8);
        CHECK.due("digest() of a STREET anew", x.digest(), fresh.digest());
        CHECK.told("jar() anew", x, x.jar(), 0, 0);
        CHECK.due("count(5) anew", x.count(5), 0);
        CHECK.found("on(0) anew", x, () -> x.on(0), Check.NOTHING);
        x.hour(255);
        x.keep(1);
        x.put(0, 0, 32);
        CHECK.refused("street(0) with a FAULT", x, () -> x.street(0), NoiseTithe.STATE);
        CHECK.due("count(1) behind a FAULT", x.count(1), 1);
    }

    private static void houseIs(NoiseTithe x, int i, int... want) {
        for (int what = 0; what <= 4; what++) {
            CHECK.told("house(" + i + ", " + what + ")", x, x.house(i, what), 1, want[what]);
        }
    }

    private static void house() {
        NoiseTithe x = Check.street(Check.ALL_KINDS);
        houseIs(x, 0, 0, 9, 1, 9, 5);
        houseIs(x, 1, 1, 8, 0, 16, 14);
        houseIs(x, 2, 2, 9, 2, 4, 1);
        houseIs(x, 3, 3, 7, 0, 7, 7);
        houseIs(x, 4, 4, 5, 0, 0, 0);
        houseIs(x, 5, 5, 9, 1, 9, 6);
        houseIs(x, 6, 0, 6, 2, 6, 1);
        houseIs(x, 7, 1, 4, 0, 8, 4);
        CHECK.refused("house(-1, 0)", x, () -> x.house(-1, 0), NoiseTithe.BAD);
        CHECK.refused("house(8, 0)", x, () -> x.house(8, 0), NoiseTithe.BAD);
        CHECK.refused("house(0, -1)", x, () -> x.house(0, -1), NoiseTithe.BAD);
        CHECK.refused("house(0, 5)", x, () -> x.house(0, 5), NoiseTithe.BAD);
        NoiseTithe quiet = Check.street("a90 h90 f42 m19 c05");
        houseIs(quiet, 0, 0, 9, 0, 9, 0);
        houseIs(quiet, 1, 1, 4, 2, 8, 0);
        houseIs(quiet, 2, 2, 1, 9, 0, 0);
        houseIs(quiet, 3, 5, 0, 5, 0, 0);
    }

    private static void mark() {
        NoiseTithe x = Check.street(Check.ALL_KINDS);
        x.hour(40);
        x.hour(32);
        x.debt(5, 0, 4);
        x.debt(5, 7, 6);
        x.debt(0, 5, 50);
        int asked = x.asked();
        CHECK.due("mark(1, 1)", x.mark(1, 1), 7);
        CHECK.due("mark(7, 1)", x.mark(7, 1), 3);
        CHECK.due("mark(2, 2)", x.mark(2, 2), 5);
        CHECK.due("mark(4, 2)", x.mark(4, 2), 5);
        CHECK.due("mark(3, 3)", x.mark(3, 3), 7);
        CHECK.due("mark(5, 3)", x.mark(5, 3), 12);
        CHECK.due("mark(4, 4)", x.mark(4, 4), 1);
        CHECK.due("mark(5, 5)", x.mark(5, 5), 10);
        CHECK.due("asked() behind mark", x.asked(), asked);
        CHECK.refused("mark(-1, 1)", x, () -> x.mark(-1, 1), NoiseTithe.BAD);
        CHECK.refused("mark(8, 1)", x, () -> x.mark(8, 1), NoiseTithe.BAD);
        CHECK.refused("mark(0, 0)", x, () -> x.mark(0, 0), NoiseTithe.BAD);
        CHECK.refused("mark(1, 6)", x, () -> x.mark(1, 6), NoiseTithe.BAD);
        CHECK.refused("mark(1, -1)", x, () -> x.mark(1, -1), NoiseTithe.BAD);
    }

    private static void markUnlike() {
        String[] can = {"", "1", "2", "3", "24", "35", "", "1"};
        for (int i = 0; i < 8; i++) {
            int house = i;
            NoiseTithe x = Check.street(Check.ALL_KINDS);
            for (int kind = 1; kind <= 5; kind++) {
                int other = kind;
                if (can[i].indexOf('0' + kind) < 0) {
                    CHECK.found("mark(" + i + ", " + kind + ")", x, () -> x.mark(house, other), Check.UNLIKE);
                }
            }
        }
    }

    private static void markChanges() {
        NoiseTithe x = Check.street("a90 u90 f90 f90 m70");
        CHECK.due("mark(0, 4) far from THE ALTAR", x.mark(0, 4), 9);
        CHECK.due("mark(1, 1): a lesser one is lesser, not alike", x.mark(1, 1), 2);
        CHECK.due("mark(3, 2) of an odd LOUD", x.mark(3, 2), 4);
        x.altar(1);
        CHECK.due("mark(0, 4) near THE ALTAR", x.mark(0, 4), 1);
        CHECK.due("mark(1, 1) near THE ALTAR", x.mark(1, 1), 3);
        x.wall(1, 1);
        CHECK.due("mark(1, 1) alike with another one", x.mark(1, 1), 2);
        NoiseTithe past = Check.street("a40 u10 u20 u30 u40 u50 u60");
        CHECK.due("mark(5, 4) behind THE ALTAR", past.mark(5, 4), 1);
        CHECK.due("mark(4, 4) at THE ALTAR", past.mark(4, 4), 0);
    }

    private static void altar() {
        NoiseTithe x = new NoiseTithe();
        CHECK.refused("altar(3) without HOUSES", x, () -> x.altar(3), NoiseTithe.STATE);
        CHECK.refused("altar(10) without HOUSES", x, () -> x.altar(10), NoiseTithe.BAD);
        NoiseTithe y = Check.street("a32 h91");
        CHECK.due("altar(0)", y.altar(0), 3);
        CHECK.told("RIPPLE at THE ALTAR", y, y.house(0, 4), 1, 8);
        CHECK.due("altar(9)", y.altar(9), 0);
        CHECK.told("RIPPLE far from THE ALTAR", y, y.house(0, 4), 1, 0);
        CHECK.refused("altar(-1)", y, () -> y.altar(-1), NoiseTithe.BAD);
        CHECK.refused("altar(10)", y, () -> y.altar(10), NoiseTithe.BAD);
        CHECK.due("altar(9) again", y.altar(9), 9);
        NoiseTithe z = Check.street("a32");
        CHECK.refused("altar(3) of a STREET without HOUSES", z, () -> z.altar(3), NoiseTithe.STATE);
    }

    private static void wall() {
        NoiseTithe x = Check.street("a02 h91 h95");
        CHECK.due("wall(0, 4)", x.wall(0, 4), 1);
        CHECK.told("RIPPLE behind WALL 4", x, x.house(0, 4), 1, 5);
        CHECK.told("WALL of the other one", x, x.house(1, 2), 1, 5);
        CHECK.due("wall(0, 99)", x.wall(0, 99), 4);
        CHECK.told("RIPPLE behind WALL 99", x, x.house(0, 4), 1, 0);
        CHECK.due("wall(0, 0)", x.wall(0, 0), 99);
        CHECK.told("RIPPLE without WALL", x, x.house(0, 4), 1, 9);
        CHECK.refused("wall(-1, 0)", x, () -> x.wall(-1, 0), NoiseTithe.BAD);
        CHECK.refused("wall(2, 0)", x, () -> x.wall(2, 0), NoiseTithe.BAD);
        CHECK.refused("wall(0, -1)", x, () -> x.wall(0, -1), NoiseTithe.BAD);
        CHECK.refused("wall(0, 100)", x, () -> x.wall(0, 100), NoiseTithe.BAD);
    }
}
