/** Promises 2 to 7: ROWS. */
public final class RowsTest {
    private static final Check CHECK = new Check();

    public static void main(String[] args) {
        row();
        lay();
        at();
        tear();
        copy();
        copyRefused();
        mean();
        CHECK.end();
    }

    private static void row() {
        NoiseTithe x = new NoiseTithe();
        CHECK.due("row(0, 3)", x.row(0, 3), 3);
        CHECK.row("row(0, 3)", x, 0, 0, 0, 0);
        x.lay(0, 1, 7);
        CHECK.due("row(0, 2) anew", x.row(0, 2), 2);
        CHECK.row("row(0, 2) anew", x, 0, 0, 0);
        CHECK.due("row(5, 40)", x.row(5, 40), 40);
        CHECK.due("at(5, 39)", x.at(5, 39), 1);
        CHECK.due("row(1, 0)", x.row(1, 0), 0);
        CHECK.due("count(6)", x.count(6), 3);
        CHECK.refused("row(-1, 3)", x, () -> x.row(-1, 3), NoiseTithe.BAD);
        CHECK.refused("row(6, 3)", x, () -> x.row(6, 3), NoiseTithe.BAD);
        CHECK.refused("row(0, 41)", x, () -> x.row(0, 41), NoiseTithe.BAD);
        CHECK.refused("row(6, -1)", x, () -> x.row(6, -1), NoiseTithe.BAD);
        CHECK.refused("row(max, max)", x, () -> x.row(Integer.MAX_VALUE, Integer.MAX_VALUE), NoiseTithe.BAD);
        CHECK.found("row(0, -1)", x, () -> x.row(0, -1), Check.SIZE);
        CHECK.found("row(0, min)", x, () -> x.row(0, Integer.MIN_VALUE), Check.SIZE);
    }

    private static void lay() {
        NoiseTithe x = new NoiseTithe();
        CHECK.found("lay(0, 0, 1) without the ROW", x, () -> x.lay(0, 0, 1), Check.NOTHING);
        x.row(0, 3);
        CHECK.told("lay(0, 2, 9)", x, x.lay(0, 2, 9), 1, 0);
        CHECK.told("lay(0, 2, min)", x, x.lay(0, 2, Integer.MIN_VALUE), 1, 9);
        CHECK.told("lay(0, 2, 4)", x, x.lay(0, 2, 4), 1, Integer.MIN_VALUE);
        CHECK.told("lay(0, 0, 5)", x, x.lay(0, 0, 5), 1, 0);
        CHECK.row("behind lay", x, 0, 5, 0, 4);
        CHECK.refused("lay(-1, 0, 1)", x, () -> x.lay(-1, 0, 1), NoiseTithe.BAD);
        CHECK.refused("lay(6, 0, 1)", x, () -> x.lay(6, 0, 1), NoiseTithe.BAD);
        CHECK.found("lay(0, -1, 1)", x, () -> x.lay(0, -1, 1), Check.BEYOND);
        CHECK.found("lay(0, 3, 1)", x, () -> x.lay(0, 3, 1), Check.BEYOND);
        CHECK.found("lay(1, 99, 1): NOTHING ahead of BEYOND", x, () -> x.lay(1, 99, 1), Check.NOTHING);
    }

    private static void at() {
        NoiseTithe x = new NoiseTithe();
        CHECK.found("at(0, 0) without the ROW", x, () -> x.at(0, 0), Check.NOTHING);
        Check.fillRow(x, 0, 4, -5, 6);
        Check.fillRow(x, 1, 70);
        CHECK.told("at(0, 0)", x, x.at(0, 0), 1, 4);
        CHECK.told("at(0, 1)", x, x.at(0, 1), 1, -5);
        CHECK.told("at(0, 2)", x, x.at(0, 2), 1, 6);
        CHECK.told("at(1, 0)", x, x.at(1, 0), 1, 70);
        CHECK.refused("at(-1, 0)", x, () -> x.at(-1, 0), NoiseTithe.BAD);
        CHECK.refused("at(6, 0)", x, () -> x.at(6, 0), NoiseTithe.BAD);
        CHECK.found("at(0, -1)", x, () -> x.at(0, -1), Check.BEYOND);
        CHECK.found("at(0, 3)", x, () -> x.at(0, 3), Check.BEYOND);
        CHECK.found("at(2, 9): NOTHING ahead of BEYOND", x, () -> x.at(2, 9), Check.NOTHING);
    }

    private static void tear() {
        NoiseTithe x = new NoiseTithe();
        CHECK.found("tear(0) without the ROW", x, () -> x.tear(0), Check.NOTHING);
        x.row(0, 3);
        x.row(1, 0);
        CHECK.due("tear(0)", x.tear(0), 1);
        CHECK.due("count(6) behind tear(0)", x.count(6), 1);
        CHECK.found("at(0, 0) behind tear(0)", x, () -> x.at(0, 0), Check.NOTHING);
        CHECK.found("tear(0) again", x, () -> x.tear(0), Check.NOTHING);
        CHECK.due("tear(1) of an empty ROW", x.tear(1), 1);
        CHECK.due("count(6) behind both", x.count(6), 0);
        CHECK.refused("tear(-1)", x, () -> x.tear(-1), NoiseTithe.BAD);
        CHECK.refused("tear(6)", x, () -> x.tear(6), NoiseTithe.BAD);
    }

    private static void copy() {
        NoiseTithe x = new NoiseTithe();
        Check.fillRow(x, 0, 1, 2, 3, 4, 5);
        Check.fillRow(x, 1, 10, 20, 30);
        x.at(1, 0);
        CHECK.told("copy(0, 3, 1, 1, 2)", x, x.copy(0, 3, 1, 1, 2), 1, 10);
        CHECK.row("copy to another ROW", x, 1, 10, 4, 5);
        CHECK.row("the ROW copied from", x, 0, 1, 2, 3, 4, 5);
        CHECK.due("copy(0, 0, 0, 1, 4)", x.copy(0, 0, 0, 1, 4), 1);
        CHECK.row("copy onto itself, forth", x, 0, 1, 1, 2, 3, 4);
        CHECK.due("copy(0, 2, 0, 0, 3)", x.copy(0, 2, 0, 0, 3), 1);
        CHECK.row("copy onto itself, back", x, 0, 2, 3, 4, 3, 4);
        CHECK.due("copy(0, 5, 1, 3, 0)", x.copy(0, 5, 1, 3, 0), 1);
        CHECK.due("copy(0, 0, 1, 0, 3)", x.copy(0, 0, 1, 0, 3), 1);
        CHECK.row("copy of a whole ROW's size", x, 1, 2, 3, 4);
    }

    private static void copyRefused() {
        NoiseTithe x = new NoiseTithe();
        int max = Integer.MAX_VALUE;
        Check.fillRow(x, 0, 1, 2, 3);
        Check.fillRow(x, 1, 10, 20);
        CHECK.refused("copy(-1, 0, 1, 0, 1)", x, () -> x.copy(-1, 0, 1, 0, 1), NoiseTithe.BAD);
        CHECK.refused("copy(0, 0, 6, 0, 1)", x, () -> x.copy(0, 0, 6, 0, 1), NoiseTithe.BAD);
        CHECK.refused("copy(0, 0, -1, 0, -1)", x, () -> x.copy(0, 0, -1, 0, -1), NoiseTithe.BAD);
        CHECK.refused("copy(6, 0, 0, 0, 1)", x, () -> x.copy(6, 0, 0, 0, 1), NoiseTithe.BAD);
        CHECK.found("copy(0, 0, 1, 0, -1)", x, () -> x.copy(0, 0, 1, 0, -1), Check.SIZE);
        CHECK.found("copy(2, 0, 1, 0, -1): SIZE ahead of NOTHING", x, () -> x.copy(2, 0, 1, 0, -1), Check.SIZE);
        CHECK.found("copy(2, 0, 1, 0, 1)", x, () -> x.copy(2, 0, 1, 0, 1), Check.NOTHING);
        CHECK.found("copy(0, 0, 2, 0, 1)", x, () -> x.copy(0, 0, 2, 0, 1), Check.NOTHING);
        CHECK.found("copy(0, 9, 2, 9, 1): NOTHING ahead of BEYOND", x, () -> x.copy(0, 9, 2, 9, 1), Check.NOTHING);
        CHECK.found("copy(0, 2, 1, 0, 2)", x, () -> x.copy(0, 2, 1, 0, 2), Check.BEYOND);
        CHECK.found("copy(0, 0, 1, 1, 2)", x, () -> x.copy(0, 0, 1, 1, 2), Check.BEYOND);
        CHECK.found("copy(0, 0, 1, 0, 3)", x, () -> x.copy(0, 0, 1, 0, 3), Check.BEYOND);
        CHECK.found("copy(0, -1, 1, 0, 0)", x, () -> x.copy(0, -1, 1, 0, 0), Check.BEYOND);
        CHECK.found("copy(0, 4, 1, 0, 0)", x, () -> x.copy(0, 4, 1, 0, 0), Check.BEYOND);
        CHECK.found("copy(0, 0, 1, -1, 0)", x, () -> x.copy(0, 0, 1, -1, 0), Check.BEYOND);
        CHECK.found("copy(0, 0, 1, 3, 0)", x, () -> x.copy(0, 0, 1, 3, 0), Check.BEYOND);
        CHECK.found("copy(0, max, 1, 0, max)", x, () -> x.copy(0, max, 1, 0, max), Check.BEYOND);
        CHECK.found("copy(0, 0, 1, max, 1)", x, () -> x.copy(0, 0, 1, max, 1), Check.BEYOND);
    }

    private static void mean() {
        NoiseTithe x = new NoiseTithe();
        int max = Integer.MAX_VALUE;
        CHECK.found("mean(0) without the ROW", x, () -> x.mean(0), Check.NOTHING);
        Check.fillRow(x, 0, 1, 2, 5);
        CHECK.told("mean of 1 2 5", x, x.mean(0), 1, 2);
        Check.fillRow(x, 0, -1, -2, -5);
        CHECK.told("mean of -1 -2 -5", x, x.mean(0), 1, -2);
        Check.fillRow(x, 0, 7);
        CHECK.told("mean of 7", x, x.mean(0), 1, 7);
        Check.fillRow(x, 5, max, max, max);
        CHECK.told("mean of the greatest ints", x, x.mean(5), 1, max);
        x.row(0, 0);
        CHECK.found("mean(0) of none", x, () -> x.mean(0), Check.NOUGHT);
        CHECK.refused("mean(-1)", x, () -> x.mean(-1), NoiseTithe.BAD);
        CHECK.refused("mean(6)", x, () -> x.mean(6), NoiseTithe.BAD);
    }
}
