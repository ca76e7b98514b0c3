import java.util.Arrays;

/** Promises 1 to 7: ROWS, sentence by sentence. */
final class BoundsOfRows extends Bounds {
    BoundsOfRows(Sentences sentences) {
        super(sentences);
    }

    void hold() {
        newObject();
        row();
        lay();
        at();
        tear();
        copy();
        copyRefused();
        mean();
    }

    private static NoiseTithe twoRows() {
        return withRow(withRow(fresh(), 0, 1, 2, 3), 1, 10, 20);
    }

    /** A ROW of 40 ints: 0, 1, .. 39. */
    private static NoiseTithe fullRow() {
        NoiseTithe x = fresh();
        x.row(0, 40);
        for (int i = 0; i < 40; i++) {
            x.lay(0, i, i);
        }
        return x;
    }

    private void newObject() {
        s.promise(1, "No ROWS, TEXTS, HOUSES.", () -> {
            NoiseTithe x = fresh();
            for (int what = 0; what <= 7; what++) {
                due("count(" + what + ")", x.count(what), 0);
            }
            foundFor(NOTHING, "at(r, 0)", Bounds::fresh, (y, r) -> y.at(r, 0), 0, 1, 2, 3, 4, 5);
            foundFor(NOTHING, "put(t, 0, 1)", Bounds::fresh, (y, t) -> y.put(t, 0, 1), 0, 1, 2, 3);
            refusedFor(BAD, "house(i, 0)", Bounds::fresh, (y, i) -> y.house(i, 0), 0, 1, 7);
        });
    }

    private void row() {
        s.promise(2, "A ROW is there with n ints 0: n.", () -> {
            NoiseTithe x = fullRow();
            due("row(0, 1) anew", x.row(0, 1), 1);
            check.row("row(0, 1) anew", x, 0, 0);
            due("row(0, 40) anew", x.row(0, 40), 40);
            check.row("row(0, 40) anew", x, 0, new int[40]);
            due("row(5, 0)", x.row(5, 0), 0);
            due("count(6): an empty ROW is there", x.count(6), 2);
            check.found("at(5, 0) of an empty ROW", x, () -> x.at(5, 0), BEYOND);
        });
        s.promise(2, "BAD: also n above 40", () -> {
            refusedFor(BAD, "row(0, n)", Bounds::fresh, (x, n) -> x.row(0, n), 41, 42, MAX);
            badOutside("row(r, 1)", Bounds::fresh, 0, 5, (x, r) -> x.row(r, 1));
            badOutside("row(r, -1): ahead of SIZE", Bounds::fresh, 0, 5, (x, r) -> x.row(r, -1));
            NoiseTithe x = fullRow();
            bad("row(0, 41) of a ROW that is there", x, () -> x.row(0, 41));
            due("row(0, 40)", x.row(0, 40), 40);
        });
        s.promise(2, "SIZE: below 0", () -> {
            foundFor(SIZE, "row(0, n)", Bounds::fresh, (x, n) -> x.row(0, n), -1, -2, MIN);
            foundFor(SIZE, "row(0, n) of a ROW that is there", BoundsOfRows::fullRow, (x, n) -> x.row(0, n), -1, MIN);
        });
    }

    private void lay() {
        s.promise(3, "Place i of a ROW is v: what it was, told by asked(): 1.", () -> {
            NoiseTithe x = fullRow();
            told("lay(0, 39, min)", x, x.lay(0, 39, MIN), 1, 39);
            told("lay(0, 39, max)", x, x.lay(0, 39, MAX), 1, MIN);
            told("lay(0, 0, -9)", x, x.lay(0, 0, -9), 1, 0);
            told("at(0, 39)", x, x.at(0, 39), 1, MAX);
            told("at(0, 0)", x, x.at(0, 0), 1, -9);
            told("at(0, 1) beside it", x, x.at(0, 1), 1, 1);
            told("at(0, 38) beside it", x, x.at(0, 38), 1, 38);
        });
        s.promise(3, "BAD", () -> badOutside("lay(r, 0, 7)", BoundsOfRows::twoRows, 0, 5, (x, r) -> x.lay(r, 0, 7)));
        s.promise(3, "NOTHING", () -> {
            foundFor(NOTHING, "lay(r, 0, 7) of a missing ROW", BoundsOfRows::twoRows, (x, r) -> x.lay(r, 0, 7), 2, 5);
            foundFor(NOTHING, "lay(2, i, 7): ahead of BEYOND", Bounds::fresh, (x, i) -> x.lay(2, i, 7), -1, 40, MIN, MAX);
            NoiseTithe torn = twoRows();
            torn.tear(1);
            check.found("lay(1, 0, 7) of a torn ROW", torn, () -> torn.lay(1, 0, 7), NOTHING);
        });
        s.promise(3, "BEYOND", () -> {
            foundFor(BEYOND, "lay(0, i, 7)", BoundsOfRows::twoRows, (x, i) -> x.lay(0, i, 7), -1, 3, MIN, MAX);
            foundFor(BEYOND, "lay(0, i, 7) of a full ROW", BoundsOfRows::fullRow, (x, i) -> x.lay(0, i, 7), -1, 40);
            foundFor(BEYOND, "lay(0, i, 7) of an empty ROW", () -> withRow(fresh(), 0), (x, i) -> x.lay(0, i, 7), 0);
            NoiseTithe smaller = fullRow();
            smaller.row(0, 2);
            check.found("lay(0, 2, 7) of a ROW that was longer", smaller, () -> smaller.lay(0, 2, 7), BEYOND);
        });
    }

    private void at() {
        s.promise(4, "Place i of a ROW, told by asked(): 1.", () -> {
            NoiseTithe x = fullRow();
            for (int i = 0; i < 40; i++) {
                told("at(0, " + i + ")", x, x.at(0, i), 1, i);
            }
        });
        s.promise(4, "BAD", () -> badOutside("at(r, 0)", BoundsOfRows::twoRows, 0, 5, (x, r) -> x.at(r, 0)));
        s.promise(4, "NOTHING", () -> {
            foundFor(NOTHING, "at(r, 0) of a missing ROW", BoundsOfRows::twoRows, (x, r) -> x.at(r, 0), 2, 5);
            foundFor(NOTHING, "at(2, i): ahead of BEYOND", Bounds::fresh, (x, i) -> x.at(2, i), -1, 40, MIN, MAX);
            NoiseTithe torn = twoRows();
            torn.tear(0);
            check.found("at(0, 0) of a torn ROW", torn, () -> torn.at(0, 0), NOTHING);
        });
        s.promise(4, "BEYOND", () -> {
            foundFor(BEYOND, "at(0, i)", BoundsOfRows::twoRows, (x, i) -> x.at(0, i), -1, 3, MIN, MAX);
            foundFor(BEYOND, "at(0, i) of a full ROW", BoundsOfRows::fullRow, (x, i) -> x.at(0, i), -1, 40);
            foundFor(BEYOND, "at(0, i) of an empty ROW", () -> withRow(fresh(), 0), (x, i) -> x.at(0, i), 0, -1);
        });
    }

    private void tear() {
        s.promise(5, "A ROW is missing: 1.", () -> {
            NoiseTithe x = withRow(fullRow(), 5);
            due("tear(0) of a full ROW", x.tear(0), 1);
            due("tear(5) of an empty ROW", x.tear(5), 1);
            due("count(6)", x.count(6), 0);
            due("row(0, 40) anew", x.row(0, 40), 40);
            check.row("row(0, 40) behind tear(0)", x, 0, new int[40]);
        });
        s.promise(5, "BAD", () -> badOutside("tear(r)", BoundsOfRows::twoRows, 0, 5, (x, r) -> x.tear(r)));
        s.promise(5, "NOTHING", () -> {
            foundFor(NOTHING, "tear(r)", Bounds::fresh, (x, r) -> x.tear(r), 0, 1, 2, 3, 4, 5);
            NoiseTithe torn = twoRows();
            torn.tear(0);
            check.found("tear(0) again", torn, () -> torn.tear(0), NOTHING);
        });
    }

    private void copy() {
        s.promise(6, "come to those of another one (perhaps itself) from one on, as if taken ahead: 1.", () -> {
            NoiseTithe x = withRow(withRow(fresh(), 0, 1, 2, 3, 4, 5), 5, 6, 7, 8);
            due("copy(0, 0, 0, 1, 4): forth onto itself", x.copy(0, 0, 0, 1, 4), 1);
            check.row("forth onto itself", x, 0, 1, 1, 2, 3, 4);
            due("copy(0, 1, 0, 0, 4): back onto itself", x.copy(0, 1, 0, 0, 4), 1);
            check.row("back onto itself", x, 0, 1, 2, 3, 4, 4);
            due("copy(0, 0, 0, 0, 5): all onto itself", x.copy(0, 0, 0, 0, 5), 1);
            check.row("all onto itself", x, 0, 1, 2, 3, 4, 4);
            due("copy(5, 0, 0, 2, 3): up to the last place", x.copy(5, 0, 0, 2, 3), 1);
            check.row("up to the last place", x, 0, 1, 2, 6, 7, 8);
            due("copy(0, 1, 5, 0, 1): one", x.copy(0, 1, 5, 0, 1), 1);
            check.row("one", x, 5, 2, 7, 8);
        });
        s.promise(6, "n places of a ROW", () -> {
            NoiseTithe x = fullRow();
            x.row(1, 40);
            due("copy(0, 0, 1, 0, 40) of full ROWS", x.copy(0, 0, 1, 0, 40), 1);
            told("the first place", x, x.at(1, 0), 1, 0);
            told("the second place", x, x.at(1, 1), 1, 1);
            told("the last place", x, x.at(1, 39), 1, 39);
            due("copy(0, 0, 1, 0, 0): none", x.copy(0, 7, 1, 0, 0), 1);
            told("the first place behind none", x, x.at(1, 0), 1, 0);
            check.found("copy(0, 0, 1, 0, 41)", x, () -> x.copy(0, 0, 1, 0, 41), BEYOND);
        });
    }

    private void copyRefused() {
        s.promise(6, "BAD", () -> {
            badOutside("copy(r, 0, 1, 0, 1)", BoundsOfRows::twoRows, 0, 5, (x, r) -> x.copy(r, 0, 1, 0, 1));
            badOutside("copy(0, 0, to, 0, 1)", BoundsOfRows::twoRows, 0, 5, (x, to) -> x.copy(0, 0, to, 0, 1));
        });
        s.promise(6, "SIZE: n below 0", () ->
                foundFor(SIZE, "copy(0, 0, 1, 0, n)", BoundsOfRows::twoRows, (x, n) -> x.copy(0, 0, 1, 0, n), -1, MIN));
        s.promise(6, "NOTHING: either", () -> {
            foundFor(NOTHING, "copy(r, 0, 1, 0, 1)", BoundsOfRows::twoRows, (x, r) -> x.copy(r, 0, 1, 0, 1), 2, 5);
            foundFor(NOTHING, "copy(0, 0, to, 0, 1)", BoundsOfRows::twoRows, (x, to) -> x.copy(0, 0, to, 0, 1), 2, 5);
            foundFor(NOTHING, "copy(r, 0, r, 0, 0)", BoundsOfRows::twoRows, (x, r) -> x.copy(r, 0, r, 0, 0), 2, 5);
        });
        s.promise(6, "BEYOND: not so many there", () -> {
            foundFor(BEYOND, "copy(0, i, 1, 0, 1)", BoundsOfRows::twoRows,
                    (x, i) -> x.copy(0, i, 1, 0, 1), -1, 3, MIN, MAX);
            foundFor(BEYOND, "copy(0, 0, 1, j, 1)", BoundsOfRows::twoRows,
                    (x, j) -> x.copy(0, 0, 1, j, 1), -1, 2, MIN, MAX);
            foundFor(BEYOND, "copy(0, 0, 0, 0, n)", BoundsOfRows::twoRows, (x, n) -> x.copy(0, 0, 0, 0, n), 4, 40, MAX);
            foundFor(BEYOND, "copy(0, 0, 1, 0, n)", BoundsOfRows::twoRows, (x, n) -> x.copy(0, 0, 1, 0, n), 3);
            foundFor(BEYOND, "copy(1, 0, 0, 0, n)", BoundsOfRows::twoRows, (x, n) -> x.copy(1, 0, 0, 0, n), 3);
            foundFor(BEYOND, "copy(0, i, 1, 0, max): the sum wraps", BoundsOfRows::twoRows,
                    (x, i) -> x.copy(0, i, 1, 0, MAX), 1, 2, MAX);
            foundFor(BEYOND, "copy(0, 0, 1, j, max): the sum wraps", BoundsOfRows::twoRows,
                    (x, j) -> x.copy(0, 0, 1, j, MAX), 1, 2, MAX);
            due("copy(0, 1, 1, 0, 2): so many and no more", twoRows().copy(0, 1, 1, 0, 2), 1);
        });
        s.promise(6, "(with n 0, too, if i or j is below 0 or above the size)", () -> {
            foundFor(BEYOND, "copy(0, i, 1, 0, 0)", BoundsOfRows::twoRows,
                    (x, i) -> x.copy(0, i, 1, 0, 0), -1, 4, MIN, MAX);
            foundFor(BEYOND, "copy(0, 0, 1, j, 0)", BoundsOfRows::twoRows,
                    (x, j) -> x.copy(0, 0, 1, j, 0), -1, 3, MIN, MAX);
            taken("copy(0, i, 1, 0, 0)", BoundsOfRows::twoRows, (x, i) -> x.copy(0, i, 1, 0, 0), 0, 3);
            taken("copy(0, 0, 1, j, 0)", BoundsOfRows::twoRows, (x, j) -> x.copy(0, 0, 1, j, 0), 0, 2);
            taken("copy(r, 0, r, 0, 0) of an empty ROW", () -> withRow(fresh(), 3), (x, r) -> x.copy(r, 0, r, 0, 0), 3);
            foundFor(BEYOND, "copy(3, i, 3, 0, 0) of an empty ROW", () -> withRow(fresh(), 3),
                    (x, i) -> x.copy(3, i, 3, 0, 0), -1, 1);
        });
        s.promise(6, "(In this order.)", () -> {
            badOutside("copy(0, 0, to, 0, -1): BAD ahead of SIZE", Bounds::fresh, 0, 5,
                    (x, to) -> x.copy(0, 0, to, 0, -1));
            foundFor(SIZE, "copy(r, 9, r, 9, -1): SIZE ahead of NOTHING", Bounds::fresh,
                    (x, r) -> x.copy(r, 9, r, 9, -1), 0, 5);
            foundFor(SIZE, "copy(0, i, 1, 0, -1): SIZE ahead of BEYOND", BoundsOfRows::twoRows,
                    (x, i) -> x.copy(0, i, 1, 0, -1), -1, 9);
            foundFor(NOTHING, "copy(0, i, 2, 0, 1): NOTHING ahead of BEYOND", BoundsOfRows::twoRows,
                    (x, i) -> x.copy(0, i, 2, 0, 1), -1, 9);
        });
    }

    private void meanIs(int want, int... values) {
        NoiseTithe x = withRow(fresh(), 0, values);
        told("mean(0) of " + Arrays.toString(values), x, x.mean(0), 1, want);
    }

    private static int[] all(int n, int v) {
        int[] values = new int[n];
        Arrays.fill(values, v);
        return values;
    }

    private void mean() {
        s.promise(7, "The mean of a ROW's ints, cut, told by asked(): 1.", () -> {
            meanIs(0, 0, 1);
            meanIs(1, 1, 2);
            meanIs(0, 0, -1);
            meanIs(-1, -1, -2);
            meanIs(3, 4, 4, 4, 3);
            meanIs(MAX, MAX);
            meanIs(MIN, MIN);
            meanIs(MAX, MAX, MAX);
            meanIs(MIN, MIN, MIN);
            meanIs(0, MIN, MAX);
            meanIs(MAX, all(40, MAX));
            meanIs(MIN, all(40, MIN));
        });
        s.promise(7, "BAD", () -> badOutside("mean(r)", BoundsOfRows::twoRows, 0, 5, (x, r) -> x.mean(r)));
        s.promise(7, "NOTHING", () -> {
            foundFor(NOTHING, "mean(r)", BoundsOfRows::twoRows, (x, r) -> x.mean(r), 2, 3, 4, 5);
            NoiseTithe torn = twoRows();
            torn.tear(0);
            check.found("mean(0) of a torn ROW", torn, () -> torn.mean(0), NOTHING);
        });
        s.promise(7, "NOUGHT", () ->
                foundFor(NOUGHT, "mean(r) of an empty ROW", () -> withRow(fresh(), 4), (x, r) -> x.mean(r), 4));
    }
}
