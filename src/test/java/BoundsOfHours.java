/** Promises 16 to 25: HOURS, TITHES, kept STREETS, sentence by sentence. */
final class BoundsOfHours extends Bounds {
    BoundsOfHours(Sentences sentences) {
        super(sentences);
    }

    void hold() {
        hour();
        hourRefused();
        undo();
        jar();
        loud();
        made();
        tithe();
        pay();
        due();
        keep();
        on();
    }

    private static NoiseTithe allKinds() {
        return street(Check.ALL_KINDS);
    }

    private static NoiseTithe forty() {
        return behindHours("a01 h90", 40, 1);
    }

    private void hour() {
        s.promise(16, "An HOUR in which a set is loud: the water behind it", () -> {
            NoiseTithe x = street("a09 f90");
            told("hour(0) of an empty set, THE JAR empty", x, x.hour(0), 0, 0);
            told("hour(1): 18, 9 of it LEAK", x, x.hour(1), 9, 0);
            told("hour(0): the other 9 LEAK", x, x.hour(0), 0, 0);
            due("the HOUR", x.count(1), 3);
            NoiseTithe all = street("a45 f90 f90 f90 f90 f90 f90 f90 f90");
            told("hour(255) of 8 HOUSES: 128", all, all.hour(255), 55, 68);
        });
        s.promise(16, "what ran over by asked()", () -> {
            NoiseTithe x = street("a00 f90 f90 f90 f90");
            x.wall(0, 6);
            told("60 and no more", x, x.hour(15), 60, 0);
            told("a full JAR", x, x.hour(0), 60, 0);
            told("a full JAR, 12 more", x, x.hour(1), 60, 12);
            NoiseTithe one = street("a00 f90 f90 f90 f90");
            one.wall(0, 5);
            told("61", one, one.hour(15), 60, 1);
            NoiseTithe less = street("a00 f90 f90 f90 f90");
            less.wall(0, 7);
            told("59", less, less.hour(15), 59, 0);
        });
    }

    private void hourRefused() {
        s.promise(16, "BAD: also bits of HOUSES that there are not", () -> {
            refusedFor(BAD, "hour(set) of 8 HOUSES", BoundsOfHours::allKinds, (x, set) -> x.hour(set),
                    256, 257, 511, 1 << 30, -1, MIN, MAX);
            refusedFor(BAD, "hour(set) of one HOUSE", () -> street("a00 h11"), (x, set) -> x.hour(set), 2, 3, 128, -1);
            refusedFor(BAD, "hour(set) without HOUSES", Bounds::fresh, (x, set) -> x.hour(set), 1, 255, -1, MIN);
            taken("hour(set) of 8 HOUSES", BoundsOfHours::allKinds, (x, set) -> x.hour(set), 0, 128, 255);
        });
        s.promise(16, "STATE: no HOUSES", () -> {
            refusedFor(STATE, "hour(set) of a new object", Bounds::fresh, (x, set) -> x.hour(set), 0);
            refusedFor(STATE, "hour(set) of a STREET without HOUSES", () -> street("a99"), (x, set) -> x.hour(set), 0);
        });
        s.promise(16, "FULL: 40 HOURS.", () -> {
            NoiseTithe x = behindHours("a00 h10", 39, 1);
            told("the HOUR behind 39", x, x.hour(1), 40, 0);
            check.refused("the HOUR behind 40", x, () -> x.hour(1), FULL);
            x.undo(40);
            check.refused("the HOUR behind 40, none undone", x, () -> x.hour(0), FULL);
            x.undo(39);
            told("the HOUR behind 40, one undone", x, x.hour(0), 39, 0);
            check.refused("the HOUR behind 40 once more", x, () -> x.hour(0), FULL);
        });
        s.promise(16, "(FULL last.)", () ->
                refusedFor(BAD, "hour(set) behind 40: BAD ahead", BoundsOfHours::forty, (x, set) -> x.hour(set), 2, -1, MIN));
    }

    private void undo() {
        s.promise(17, "HOURS from one (0 .. the HOUR: none then, all stays) on are undone", () -> {
            NoiseTithe x = forty();
            long was = x.digest();
            due("undo(40)", x.undo(40), 0);
            due("digest() behind none undone", x.digest(), was);
            due("undo(39)", x.undo(39), 1);
            due("the HOUR", x.count(1), 39);
            due("undo(0)", x.undo(0), 39);
            due("undo(0) of none", x.undo(0), 0);
            due("undo(0) without HOUSES", fresh().undo(0), 0);
        });
        s.promise(17, "(water, RIPPLES made as ahead of it; WALLS, THE ALTAR, what was PAID stay)", () -> {
            NoiseTithe x = street("a03 f90 f90 f90 f90");
            x.hour(15);
            x.wall(0, 8);
            x.altar(9);
            x.pay(0, 7);
            x.hour(15);
            x.undo(1);
            told("THE JAR as ahead of HOUR 1", x, x.jar(), 57, 6);
            due("made(0)", x.made(0), 18);
            due("made(3)", x.made(3), 15);
            x.undo(0);
            told("THE JAR as ahead of HOUR 0", x, x.jar(), 0, 0);
            due("made(0) ahead of HOUR 0", x.made(0), 0);
            due("the WALL", x.wall(0, 8), 8);
            due("THE ALTAR", x.altar(9), 9);
            due("what was PAID", x.pay(0, 0), 7);
        });
        s.promise(17, "how many", () -> {
            for (int from = 0; from <= 40; from += 8) {
                due("undo(" + from + ") of 40", forty().undo(from), 40 - from);
            }
        });
        s.promise(17, "BAD.", () -> {
            badOutside("undo(from) of 40", BoundsOfHours::forty, 0, 40, (x, from) -> x.undo(from));
            badOutside("undo(from) of none", BoundsOfHours::allKinds, 0, 0, (x, from) -> x.undo(from));
            badOutside("undo(from) without HOUSES", Bounds::fresh, 0, 0, (x, from) -> x.undo(from));
        });
    }

    private void jar() {
        s.promise(18, "The water in THE JAR", () -> {
            NoiseTithe none = fresh();
            told("without HOUSES", none, none.jar(), 0, 0);
            NoiseTithe empty = allKinds();
            told("without HOURS", empty, empty.jar(), 0, 0);
            NoiseTithe full = behindHours("a00 f90 f90 f90 f90", 1, 15);
            told("full", full, full.jar(), 60, 6);
        });
        s.promise(18, "all that ran over by asked()", () -> {
            NoiseTithe x = behindHours(FORGES, 40, 255);
            told("in 40 HOURS", x, x.jar(), 60, 40 * 128 - 60);
            x.undo(1);
            told("in one HOUR", x, x.jar(), 60, 68);
            x.undo(0);
            told("in none", x, x.jar(), 0, 0);
        });
    }

    private void loud() {
        s.promise(19, "The set that was loud in an HOUR that has been", () -> {
            NoiseTithe x = allKinds();
            x.hour(0);
            x.hour(255);
            told("an empty set", x, x.loud(0), 0, 0);
            told("a full set", x, x.loud(1), 255, 38);
            NoiseTithe full = forty();
            told("the first one of 40", full, full.loud(0), 1, 9);
            told("the last one of 40", full, full.loud(39), 1, 1);
        });
        s.promise(19, "(less what ran over)", () -> {
            NoiseTithe x = behindHours("a00 f90 f90 f90 f90", 2, 15);
            told("66 into an empty JAR", x, x.loud(0), 15, 60);
            told("66 into a full JAR", x, x.loud(1), 15, 0);
            NoiseTithe leaking = behindHours("a09 f90", 2, 1);
            told("what LEAKS is not taken off", leaking, leaking.loud(0), 1, 18);
        });
        s.promise(19, "BAD: below 0", () -> {
            refusedFor(BAD, "loud(hour) of 40", BoundsOfHours::forty, (x, hour) -> x.loud(hour), -1, -2, MIN);
            refusedFor(BAD, "loud(hour) without HOUSES", Bounds::fresh, (x, hour) -> x.loud(hour), -1, MIN);
        });
        s.promise(19, "BEYOND: no such HOUR", () -> {
            foundFor(BEYOND, "loud(hour) of 40", BoundsOfHours::forty, (x, hour) -> x.loud(hour), 40, 41, MAX);
            foundFor(BEYOND, "loud(hour) of none", BoundsOfHours::allKinds, (x, hour) -> x.loud(hour), 0, 1, MAX);
            foundFor(BEYOND, "loud(hour) without HOUSES", Bounds::fresh, (x, hour) -> x.loud(hour), 0, MAX);
            NoiseTithe undone = forty();
            undone.undo(7);
            check.found("loud(7), undone", undone, () -> undone.loud(7), BEYOND);
            told("loud(6), not undone", undone, undone.loud(6), 1, 9);
        });
    }

    private void made() {
        s.promise(20, "All RIPPLES that a HOUSE made.", () -> {
            NoiseTithe x = behindHours(FORGES, 40, 255);
            int[] ripples = {14, 15, 16, 17, 18, 17, 16, 15};
            for (int i = 0; i < 8; i++) {
                due("made(" + i + ") in 40 HOURS, most of it ran over", x.made(i), 40 * ripples[i]);
                due("made(" + i + ") ahead of all HOURS", allKinds().made(i), 0);
            }
        });
        s.promise(20, "BAD.", () -> {
            badOutside("made(i)", BoundsOfHours::allKinds, 0, 7, (x, i) -> x.made(i));
            refusedFor(BAD, "made(i) without HOUSES", Bounds::fresh, (x, i) -> x.made(i), 0);
        });
    }

    private void tithe() {
        s.promise(21, "TITHE of a HOUSE, told by asked(): 1.", () -> {
            int[][] madeAndTithe = {{0, 0}, {1, 0}, {9, 0}, {10, 1}, {11, 1}, {19, 1}, {20, 2}, {39, 3}, {40, 4}};
            for (int[] want : madeAndTithe) {
                NoiseTithe x = behindHours("a00 h10", want[0], 1);
                told("behind " + want[0] + " made", x, x.tithe(0), 1, want[1]);
            }
            NoiseTithe most = behindHours("a00 f90", 40, 1);
            told("behind 720 made", most, most.tithe(0), 1, 72);
            for (int k = 0; k < 10; k++) {
                most.pay(0, 99);
            }
            most.pay(0, 9);
            told("behind 720 made, 999 PAID", most, most.tithe(0), 1, 72 - 999);
        });
        s.promise(21, "BAD.", () -> {
            badOutside("tithe(i)", BoundsOfHours::allKinds, 0, 7, (x, i) -> x.tithe(i));
            refusedFor(BAD, "tithe(i) without HOUSES", Bounds::fresh, (x, i) -> x.tithe(i), 0);
        });
    }

    /** HOUSE 0 PAID so much, of 0 .. 999. */
    private static NoiseTithe paid(int v) {
        NoiseTithe x = street("a00 h10 h10");
        for (int left = v; left > 0; left -= 99) {
            x.pay(0, Math.min(left, 99));
        }
        return x;
    }

    private void pay() {
        s.promise(22, "A HOUSE PAYS v (0 .. 99) ahead: all that it PAID.", () -> {
            due("pay(0, 0)", paid(0).pay(0, 0), 0);
            due("pay(0, 99)", paid(0).pay(0, 99), 99);
            due("pay(0, 1) behind 99", paid(99).pay(0, 1), 100);
            due("pay(1, 5): another one's", paid(999).pay(1, 5), 5);
        });
        s.promise(22, "BAD", () -> {
            badOutside("pay(0, v)", BoundsOfHours::allKinds, 0, 99, (x, v) -> x.pay(0, v));
            badOutside("pay(i, 1)", BoundsOfHours::allKinds, 0, 7, (x, i) -> x.pay(i, 1));
            badOutside("pay(0, v) behind 999: ahead of SPENT", () -> paid(999), 0, 99, (x, v) -> x.pay(0, v));
            refusedFor(BAD, "pay(i, 0) without HOUSES", Bounds::fresh, (x, i) -> x.pay(i, 0), 0);
        });
        s.promise(22, "SPENT: it would be above 999", () -> {
            due("pay(0, 99) to 999", paid(900).pay(0, 99), 999);
            due("pay(0, 1) to 999", paid(998).pay(0, 1), 999);
            due("pay(0, 0) at 999", paid(999).pay(0, 0), 999);
            refusedFor(SPENT, "pay(0, v) behind 999", () -> paid(999), (x, v) -> x.pay(0, v), 1, 99);
            refusedFor(SPENT, "pay(0, v) behind 901", () -> paid(901), (x, v) -> x.pay(0, v), 99);
            refusedFor(SPENT, "pay(0, v) behind 998", () -> paid(998), (x, v) -> x.pay(0, v), 2);
        });
    }

    private void due() {
        s.promise(23, "All TITHES above 0 together", () -> {
            NoiseTithe x = behindHours("a00 f90 f90 h90 h90", 40, 7);
            told("72, 68, 28, 0", x, x.due(), 168, 0);
            x.pay(0, 99);
            told("-27, 68, 28, 0: what is below 0 is not taken off", x, x.due(), 96, 1);
            x.pay(2, 28);
            told("-27, 68, 0, 0", x, x.due(), 68, 1);
            x.pay(1, 67);
            told("-27, 1, 0, 0", x, x.due(), 1, 1);
        });
        s.promise(23, "the HOUSE with the greatest one (the first; NONE: none is above 0) by asked()", () -> {
            NoiseTithe x = behindHours("a00 h90 f50 f20 h90", 40, 15);
            told("36, 36, 8, 24: the first", x, x.due(), 104, 0);
            x.pay(0, 1);
            told("35, 36, 8, 24", x, x.due(), 103, 1);
            NoiseTithe none = fresh();
            told("without HOUSES", none, none.due(), 0, NONE);
            NoiseTithe still = behindHours("a00 h10", 9, 1);
            told("all are 0", still, still.due(), 0, NONE);
            still.pay(0, 1);
            told("all are below 0", still, still.due(), 0, NONE);
            still.hour(1);
            told("10 made, 1 PAID", still, still.due(), 0, NONE);
            NoiseTithe last = behindHours("a70 h00 h00 h00 h00 h00 h00 h00 h10", 10, 255);
            told("the last one of 8 alone", last, last.due(), 1, 7);
        });
    }

    private void keep() {
        s.promise(24, "The STREET (all but ROWS, TEXTS) is kept in a place (0 .. 2): its HOUR.", () -> {
            due("keep(0) at HOUR 0", allKinds().keep(0), 0);
            due("keep(2) at HOUR 40", forty().keep(2), 40);
            NoiseTithe x = withRow(allKinds(), 0, 7);
            x.keep(1);
            x.row(0, 0);
            x.text(0, 0);
            x.on(1);
            check.found("a ROW is as it is, not as it was", x, () -> x.at(0, 0), BEYOND);
            check.found("a TEXT is as it is, not as it was", x, () -> x.put(0, 0, 1), BEYOND);
        });
        s.promise(24, "BAD", () -> badOutside("keep(k)", BoundsOfHours::allKinds, 0, 2, (x, k) -> x.keep(k)));
        s.promise(24, "STATE: no HOUSES", () -> {
            refusedFor(STATE, "keep(k) of a new object", Bounds::fresh, (x, k) -> x.keep(k), 0, 2);
            refusedFor(STATE, "keep(k) of a STREET without HOUSES", () -> street("a99"), (x, k) -> x.keep(k), 0, 2);
            badOutside("keep(k) without HOUSES: BAD ahead of STATE", Bounds::fresh, 0, 2, (x, k) -> x.keep(k));
        });
    }

    private void on() {
        s.promise(25, "The STREET is as it was kept: its HOUR.", () -> {
            NoiseTithe x = behindHours("a01 h90 h80", 40, 1);
            x.debt(0, 1, 3);
            x.keep(2);
            long kept = x.digest();
            x.undo(0);
            x.pay(0, 99);
            x.wall(0, 99);
            x.altar(9);
            x.debt(0, 1, 99);
            for (int hour = 0; hour < 40; hour++) {
                x.hour(2);
            }
            due("on(2)", x.on(2), 40);
            told("loud(0) behind on(2)", x, x.loud(0), 1, 9);
            told("loud(39) behind on(2)", x, x.loud(39), 1, 1);
            due("digest() behind on(2)", x.digest(), kept);
            check.refused("hour(0) behind on(2): 40 HOURS", x, () -> x.hour(0), FULL);
            x.undo(39);
            told("jar() behind on(2), the last HOUR undone", x, x.jar(), 59, 39 * 9 - 59 - 39);
            x.undo(1);
            x.keep(0);
            due("on(2) again: what is kept stays kept", x.on(2), 40);
            due("on(0)", x.on(0), 1);
            due("made(0) behind on(0)", x.made(0), 9);
        });
        s.promise(25, "BAD", () -> badOutside("on(k)", BoundsOfHours::allKinds, 0, 2, (x, k) -> x.on(k)));
        s.promise(25, "NOTHING", () -> {
            foundFor(NOTHING, "on(k) of a new object", Bounds::fresh, (x, k) -> x.on(k), 0, 1, 2);
            foundFor(NOTHING, "on(k) where another one is kept", () -> {
                NoiseTithe x = allKinds();
                x.keep(1);
                return x;
            }, (x, k) -> x.on(k), 0, 2);
            foundFor(NOTHING, "on(k) behind a STREET anew", () -> {
                NoiseTithe x = allKinds();
                x.keep(0);
                x.street(0);
                return x;
            }, (x, k) -> x.on(k), 0);
        });
    }
}
