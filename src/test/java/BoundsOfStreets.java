import java.util.ArrayList;
import java.util.List;
import java.util.function.IntSupplier;

/** Promises 8 to 15: TEXTS, and the STREETS that they tell, sentence by sentence. */
final class BoundsOfStreets extends Bounds {
    BoundsOfStreets(Sentences sentences) {
        super(sentences);
    }

    void hold() {
        text();
        put();
        fault();
        street();
        streetAnew();
        streetSmaller();
        house();
        mark();
        markRefused();
        altar();
        wall();
    }

    private static NoiseTithe allKinds() {
        return street(Check.ALL_KINDS);
    }

    private static NoiseTithe twoBytes() {
        return withText(fresh(), 0, "xy");
    }

    private void text() {
        s.promise(8, "A TEXT is there with n blanks: n.", () -> {
            NoiseTithe x = fresh();
            due("text(0, 80)", x.text(0, 80), 80);
            for (int i = 0; i < 80; i++) {
                due("a blank at " + i, x.put(0, i, 'q'), 1032);
            }
            due("text(0, 1) anew", x.text(0, 1), 1);
            due("a blank anew at 0", x.put(0, 0, 'q'), 1032);
            due("text(0, 80) anew", x.text(0, 80), 80);
            due("a blank anew at 79", x.put(0, 79, 'q'), 1032);
            due("a blank anew at 0", x.put(0, 0, 'q'), 1032);
            due("text(3, 0)", x.text(3, 0), 0);
            due("count(7): an empty TEXT is there", x.count(7), 2);
        });
        s.promise(8, "BAD: also n above 80", () -> {
            refusedFor(BAD, "text(0, n)", Bounds::fresh, (x, n) -> x.text(0, n), 81, 82, MAX);
            badOutside("text(t, 1)", Bounds::fresh, 0, 3, (x, t) -> x.text(t, 1));
            badOutside("text(t, -1): ahead of SIZE", Bounds::fresh, 0, 3, (x, t) -> x.text(t, -1));
            refusedFor(BAD, "text(0, n) of a TEXT that is there", BoundsOfStreets::twoBytes, (x, n) -> x.text(0, n), 81);
        });
        s.promise(8, "SIZE: below 0", () -> {
            foundFor(SIZE, "text(0, n)", Bounds::fresh, (x, n) -> x.text(0, n), -1, -2, MIN);
            foundFor(SIZE, "text(0, n) of a TEXT that is there", BoundsOfStreets::twoBytes, (x, n) -> x.text(0, n), -1);
        });
    }

    /** What a byte is told as, when a number has been put there. */
    private void putIs(int v, int want) {
        NoiseTithe x = twoBytes();
        x.put(0, 1, v);
        due("put(0, 1, 0) behind put(0, 1, " + v + ")", x.put(0, 1, 0), want);
        due("put(0, 0, 0) beside it", x.put(0, 0, 0), 1000 + 'x');
    }

    private void put() {
        s.promise(9, "cut to a byte (-128 .. 127)", () -> {
            putIs(-128, 872);
            putIs(127, 1127);
            putIs(-129, 1127);
            putIs(128, 872);
            putIs(255, 999);
            putIs(256, 1000);
            putIs(-256, 1000);
            putIs(-257, 999);
            putIs(65536 + 97, 1097);
            putIs(MIN, 1000);
            putIs(MAX, 999);
        });
        s.promise(9, "what it was, and 1000 more", () -> {
            NoiseTithe x = fresh();
            x.text(0, 80);
            due("the first byte", x.put(0, 0, 5), 1032);
            due("the last byte", x.put(0, 79, 6), 1032);
            due("the first byte again", x.put(0, 0, 7), 1005);
            due("the last byte again", x.put(0, 79, 8), 1006);
            due("asked() behind put", x.asked(), 0);
        });
        s.promise(9, "BAD", () -> badOutside("put(t, 0, 1)", BoundsOfStreets::twoBytes, 0, 3, (x, t) -> x.put(t, 0, 1)));
        s.promise(9, "NOTHING", () -> {
            foundFor(NOTHING, "put(t, 0, 1)", BoundsOfStreets::twoBytes, (x, t) -> x.put(t, 0, 1), 1, 2, 3);
            foundFor(NOTHING, "put(3, i, 1): ahead of BEYOND", Bounds::fresh, (x, i) -> x.put(3, i, 1), -1, 80, MIN, MAX);
        });
        s.promise(9, "BEYOND", () -> {
            foundFor(BEYOND, "put(0, i, 1)", BoundsOfStreets::twoBytes, (x, i) -> x.put(0, i, 1), -1, 2, MIN, MAX);
            foundFor(BEYOND, "put(0, i, 1) of an empty TEXT", () -> withText(fresh(), 0, ""), (x, i) -> x.put(0, i, 1), 0);
            foundFor(BEYOND, "put(0, i, 1) of a full TEXT", () -> withText(fresh(), 0, " ".repeat(80)),
                    (x, i) -> x.put(0, i, 1), -1, 80);
        });
    }

    private void fault() {
        s.promise(10, "A FAULT of a TEXT", () -> {
            due("of an empty TEXT", withText(fresh(), 0, "").fault(0), 0);
            due("of a full TEXT of blanks", withText(fresh(), 3, " ".repeat(80)).fault(3), 80);
            due("at the first byte", withText(fresh(), 0, "x").fault(0), 0);
            due("at the last byte of a full TEXT", withText(fresh(), 0, "a00" + " ".repeat(76) + "x").fault(0), 79);
            due("at the end of a full TEXT", withText(fresh(), 0, "a00" + " ".repeat(76) + "h").fault(0), 80);
            due("asked() behind fault", withText(fresh(), 0, "x").asked(), 0);
        });
        s.promise(10, "NONE: there is none.", () -> {
            String full = "a00" + " ".repeat(74) + "h00";
            refusedFor(NONE, "fault(t)", () -> withText(fresh(), 0, "a00"), (x, t) -> x.fault(t), 0);
            refusedFor(NONE, "fault(t) of a full TEXT", () -> withText(fresh(), 3, full), (x, t) -> x.fault(t), 3);
            refusedFor(NONE, "fault(t) of 8 HOUSES", () -> withText(fresh(), 1, FORGES), (x, t) -> x.fault(t), 1);
        });
        s.promise(10, "BAD", () -> badOutside("fault(t)", BoundsOfStreets::twoBytes, 0, 3, (x, t) -> x.fault(t)));
        s.promise(10, "NOTHING", () ->
                foundFor(NOTHING, "fault(t)", BoundsOfStreets::twoBytes, (x, t) -> x.fault(t), 1, 2, 3));
    }

    private void street() {
        s.promise(11, "how many HOUSES", () -> {
            due("of a STREET without HOUSES", withText(fresh(), 0, "a00").street(0), 0);
            due("of a STREET of one", withText(fresh(), 0, "a00 h11").street(0), 1);
            due("of a STREET of 8", withText(fresh(), 3, FORGES).street(3), 8);
        });
        s.promise(11, "BAD", () -> badOutside("street(t)", BoundsOfStreets::allKinds, 0, 3, (x, t) -> x.street(t)));
        s.promise(11, "NOTHING", () ->
                foundFor(NOTHING, "street(t)", BoundsOfStreets::allKinds, (x, t) -> x.street(t), 1, 2, 3));
        s.promise(11, "STATE: a FAULT.", () -> {
            refusedFor(STATE, "street(t) of an empty TEXT", () -> withText(allKinds(), 2, ""), (x, t) -> x.street(t), 2);
            refusedFor(STATE, "street(t) of blanks", () -> withText(allKinds(), 2, "   "), (x, t) -> x.street(t), 2);
            refusedFor(STATE, "street(t) of 9 HOUSES", () -> withText(allKinds(), 2, FORGES + " h00"),
                    (x, t) -> x.street(t), 2);
            NoiseTithe x = withText(allKinds(), 1, "a1");
            x.hour(255);
            x.keep(2);
            check.refused("street(1) of a1", x, () -> x.street(1), STATE);
            due("what was kept stays", x.on(2), 1);
        });
        s.promise(11, "(STATE behind NOTHING.)", () -> {
            foundFor(NOTHING, "street(t) without HOUSES", Bounds::fresh, (x, t) -> x.street(t), 0, 3);
            foundFor(NOTHING, "street(t) where another TEXT has a FAULT", BoundsOfStreets::twoBytes,
                    (x, t) -> x.street(t), 1, 3);
        });
    }

    private void streetAnew() {
        s.promise(11, "(anew: HOUR 0, THE JAR empty, nothing PAID, no DEBTS, kept STREETS)", () -> {
            NoiseTithe x = behindHours(FORGES, 40, 255);
            x.pay(0, 99);
            x.pay(7, 99);
            x.debt(0, 7, 99);
            x.debt(7, 0, 98);
            x.wall(0, 99);
            x.altar(9);
            x.keep(0);
            x.keep(1);
            x.keep(2);
            due("street(0) anew", x.street(0), 8);
            due("the HOUR", x.count(1), 0);
            told("THE JAR", x, x.jar(), 0, 0);
            due("kept STREETS", x.count(5), 0);
            for (int i = 0; i < 8; i++) {
                told("tithe(" + i + ")", x, x.tithe(i), 1, 0);
                told("balance(" + i + ")", x, x.balance(i), 1, 0);
                due("pay(" + i + ", 0)", x.pay(i, 0), 0);
            }
            due("digest()", x.digest(), street(FORGES).digest());
            due("an HOUR is not FULL", x.hour(1), 14);
        });
    }

    /** What all calls answer on a STREET that do not change it. */
    private static List<Long> answers(NoiseTithe x) {
        List<Long> answers = new ArrayList<>();
        for (int v : new int[] {0, 1, 4, 5, 9, 14, 18, 40}) {
            IntSupplier[] calls = {
                () -> x.fits(v), () -> x.sure(v), () -> x.odds(0, v), () -> x.silence(v), () -> x.thunder(v, 4),
                () -> x.wedding(v), () -> x.hours(3, v)};
            for (IntSupplier call : calls) {
                answers.add((long) call.getAsInt());
                answers.add((long) x.asked());
            }
        }
        IntSupplier[] calls = {x::rises, x::asked, x::most, x::asked, x::payments, x::net, x::due, x::asked};
        for (IntSupplier call : calls) {
            answers.add((long) call.getAsInt());
        }
        answers.add(x.digest());
        return answers;
    }

    private void streetSmaller() {
        s.promise(11, "A STREET by a TEXT", () -> {
            for (String smaller : new String[] {"a00 h50 h50", "a00 h50 u90 h20", "a00 u00"}) {
                NoiseTithe x = behindHours("a22 u90 f90 b90 c90 m90 h90 f90 u90", 3, 255);
                x.debt(0, 1, 7);
                x.debt(7, 0, 5);
                answers(x);
                withText(x, 0, smaller).street(0);
                NoiseTithe fresh = street(smaller);
                fresh.fits(0);
                x.fits(0);
                List<Long> want = answers(fresh);
                List<Long> got = answers(x);
                for (int k = 0; k < want.size(); k++) {
                    due("answer " + k + " on " + smaller + " behind 8 HOUSES", got.get(k), want.get(k));
                }
            }
        });
    }

    private void house() {
        s.promise(12, "0 its KIND, 1 LOUD, 2 its WALL, 3 SOUND, 4 its RIPPLE, told by asked(): 1.", () -> {
            NoiseTithe x = street("a00 f90 h00 m19 b99 u90 c09 f99 f90");
            int[][] want = {
                {1, 9, 0, 18, 18}, {0, 0, 0, 0, 0}, {2, 1, 9, 0, 0}, {3, 9, 9, 9, 0},
                {4, 9, 0, 0, 0}, {5, 0, 9, 0, 0}, {1, 9, 9, 18, 3}, {1, 9, 0, 18, 11}};
            for (int i = 0; i < 8; i++) {
                for (int what = 0; what <= 4; what++) {
                    told("house(" + i + ", " + what + ")", x, x.house(i, what), 1, want[i][what]);
                }
            }
        });
        s.promise(12, "BAD.", () -> {
            badOutside("house(i, 0) of 8 HOUSES", BoundsOfStreets::allKinds, 0, 7, (x, i) -> x.house(i, 0));
            badOutside("house(0, what)", BoundsOfStreets::allKinds, 0, 4, (x, what) -> x.house(0, what));
            refusedFor(BAD, "house(i, 4) of one HOUSE", () -> street("a00 h11"), (x, i) -> x.house(i, 4), -1, 1);
            refusedFor(BAD, "house(i, 0) without HOUSES", () -> street("a00"), (x, i) -> x.house(i, 0), -1, 0);
        });
    }

    private void mark() {
        s.promise(13, "how many other HOUSES have a lesser RIPPLE", () -> {
            due("a FORGE alone", street("a00 f90").mark(0, 1), 0);
            due("alike ones are not lesser", street("a00 f20 h50 f30").mark(0, 1), 0);
            due("all others are lesser", street("a00 f90 h00 h00 h00 h00 h00 h00 h00").mark(0, 1), 7);
            due("the least one", street("a00 f00 h90 h90").mark(0, 1), 0);
            due("the first one alone is lesser", street("a00 h00 f90 f90").mark(2, 1), 1);
        });
        s.promise(13, "(LOUD less SOUND)", () -> {
            due("MUFFLED, LOUD 0", street("a00 m00").mark(0, 2), 0);
            due("MUFFLED, LOUD 1: the half, cut, is 0", street("a00 m10").mark(0, 2), 1);
            due("MUFFLED, LOUD 9", street("a00 m99").mark(0, 2), 5);
            due("MUTE, LOUD 0", street("a00 u00").mark(0, 2), 0);
            due("MUTE, LOUD 9", street("a00 u90").mark(0, 2), 9);
        });
        s.promise(13, "all RIPPLES that it made", () -> {
            due("BELLS ahead of all HOURS", street("a00 b90").mark(0, 3), 0);
            due("BELLS behind 40 HOURS", behindHours("a00 b90", 40, 1).mark(0, 3), 360);
            due("a CHOIR behind 40 HOURS", behindHours("a00 c90", 40, 1).mark(0, 3), 360);
            due("BELLS silent in 40 HOURS", behindHours("a00 b90", 40, 0).mark(0, 3), 0);
        });
        s.promise(13, "its place's distance from THE ALTAR", () -> {
            due("at THE ALTAR", street("a00 u00").mark(0, 4), 0);
            due("ahead of it", street("a90 u00").mark(0, 4), 9);
            due("behind it", street("a00 h00 h00 h00 h00 h00 h00 h00 u00").mark(7, 4), 7);
        });
        s.promise(13, "what it owes to other HOUSES together", () -> {
            NoiseTithe x = street("a00 c10 h10 h10 h10 h10 h10 h10 h10");
            due("nothing", x.mark(0, 5), 0);
            for (int j = 1; j <= 7; j++) {
                x.debt(0, j, 99);
                x.debt(j, 0, 98);
            }
            due("all that can be", x.mark(0, 5), 693);
        });
    }

    private void markRefused() {
        s.promise(13, "BAD: also KIND 0", () -> {
            badOutside("mark(i, 1)", BoundsOfStreets::allKinds, 0, 7, (x, i) -> x.mark(i, 1));
            badOutside("mark(1, kind)", BoundsOfStreets::allKinds, 1, 5, (x, kind) -> x.mark(1, kind));
            refusedFor(BAD, "mark(i, 0) of all KINDS", BoundsOfStreets::allKinds, (x, i) -> x.mark(i, 0),
                    0, 1, 2, 3, 4, 5);
            refusedFor(BAD, "mark(i, 5) without HOUSES", Bounds::fresh, (x, i) -> x.mark(i, 5), 0);
        });
        s.promise(13, "UNLIKE", () -> {
            String[] can = {"", "1", "2", "3", "24", "35"};
            for (int i = 0; i < can.length; i++) {
                for (int kind = 1; kind <= 5; kind++) {
                    if (can[i].indexOf('0' + kind) < 0) {
                        int house = i;
                        foundFor(UNLIKE, "mark(" + i + ", kind)", BoundsOfStreets::allKinds,
                                (x, k) -> x.mark(house, k), kind);
                    }
                }
            }
        });
        s.promise(13, "What a HOUSE that IS of a KIND tells", () -> {
            taken("mark(2, kind) of a MUFFLED one", BoundsOfStreets::allKinds, (x, k) -> x.mark(2, k), 2);
            taken("mark(4, kind) of a MUTE one", BoundsOfStreets::allKinds, (x, k) -> x.mark(4, k), 2, 4);
            taken("mark(5, kind) of a CHOIR", BoundsOfStreets::allKinds, (x, k) -> x.mark(5, k), 3, 5);
        });
    }

    private void altar() {
        s.promise(14, "THE ALTAR is at place v (0 .. 9): where it was.", () -> {
            NoiseTithe x = street("a00 f90");
            due("altar(9)", x.altar(9), 0);
            told("RIPPLE at the greatest distance", x, x.house(0, 4), 1, 9);
            due("altar(0)", x.altar(0), 9);
            told("RIPPLE at no distance", x, x.house(0, 4), 1, 18);
            due("altar(0) again", x.altar(0), 0);
        });
        s.promise(14, "BAD", () -> badOutside("altar(v)", BoundsOfStreets::allKinds, 0, 9, (x, v) -> x.altar(v)));
        s.promise(14, "STATE: no HOUSES", () -> {
            refusedFor(STATE, "altar(v) of a new object", Bounds::fresh, (x, v) -> x.altar(v), 0, 9);
            refusedFor(STATE, "altar(v) of a STREET without HOUSES", () -> street("a99"), (x, v) -> x.altar(v), 0, 9);
            badOutside("altar(v) without HOUSES: BAD ahead of STATE", Bounds::fresh, 0, 9, (x, v) -> x.altar(v));
        });
    }

    private void wall() {
        s.promise(15, "The WALL of a HOUSE is v (0 .. 99): what it was.", () -> {
            NoiseTithe x = street("a00 f99 h00 h00 h00 h00 h00 h00 f90");
            due("wall(0, 99)", x.wall(0, 99), 9);
            told("RIPPLE behind the greatest WALL", x, x.house(0, 4), 1, 0);
            due("wall(0, 17)", x.wall(0, 17), 99);
            told("RIPPLE behind a WALL 1 less than its SOUND", x, x.house(0, 4), 1, 1);
            due("wall(0, 18)", x.wall(0, 18), 17);
            told("RIPPLE behind a WALL as its SOUND", x, x.house(0, 4), 1, 0);
            due("wall(0, 0)", x.wall(0, 0), 18);
            told("RIPPLE without WALL", x, x.house(0, 4), 1, 18);
            due("wall(7, 1) of the last HOUSE", x.wall(7, 1), 0);
            told("RIPPLE of the last HOUSE", x, x.house(7, 4), 1, 10);
        });
        s.promise(15, "BAD.", () -> {
            badOutside("wall(i, 5)", BoundsOfStreets::allKinds, 0, 7, (x, i) -> x.wall(i, 5));
            badOutside("wall(0, v)", BoundsOfStreets::allKinds, 0, 99, (x, v) -> x.wall(0, v));
            refusedFor(BAD, "wall(i, 5) without HOUSES", Bounds::fresh, (x, i) -> x.wall(i, 5), 0);
        });
    }
}
