/** Promises 16 to 25: HOURS, TITHES, kept STREETS. */
public final class HoursTest {
    private static final Check CHECK = new Check();

    public static void main(String[] args) {
        hour();
        hourRefused();
        undo();
        undoKeepsTheRest();
        jar();
        loud();
        made();
        tithe();
        pay();
        due();
        keep();
        on();
        onThenUndo();
        CHECK.end();
    }

    private static void hour() {
        NoiseTithe x = Check.street(Check.ALL_KINDS);
        CHECK.told("hour(3)", x, x.hour(3), 17, 0);
        CHECK.told("hour(16) of a MUTE", x, x.hour(16), 15, 0);
        CHECK.told("hour(255)", x, x.hour(255), 51, 0);
        CHECK.told("hour(1)", x, x.hour(1), 54, 0);
        CHECK.told("hour(96)", x, x.hour(96), 58, 1);
        CHECK.told("hour(2)", x, x.hour(2), 58, 12);
        CHECK.told("hour(0)", x, x.hour(0), 56, 0);
        NoiseTithe full = Check.street("a00 f90 f90 f90 f90");
        CHECK.told("hour(15): 18, 17, 16, 15 over 60", full, full.hour(15), 60, 6);
        CHECK.told("hour(0) of a full JAR without LEAK", full, full.hour(0), 60, 0);
        NoiseTithe leaking = Check.street("a09 h50");
        CHECK.told("hour(1): what there is leaks", leaking, leaking.hour(1), 0, 0);
        NoiseTithe walled = Check.street("a00 h90");
        walled.hour(1);
        walled.wall(0, 4);
        CHECK.told("hour(1) behind a WALL of 4", walled, walled.hour(1), 14, 0);
        NoiseTithe exact = Check.street("a00 f90 f90 f90 h90 h90");
        exact.wall(4, 5);
        exact.wall(3, 3);
        CHECK.told("hour(15): 54", exact, exact.hour(15), 54, 0);
        exact.wall(0, 12);
        CHECK.told("hour(1): 60 and no more", exact, exact.hour(1), 60, 0);
    }

    private static void hourRefused() {
        NoiseTithe none = new NoiseTithe();
        CHECK.refused("hour(0) without HOUSES", none, () -> none.hour(0), NoiseTithe.STATE);
        CHECK.refused("hour(1) without HOUSES", none, () -> none.hour(1), NoiseTithe.BAD);
        NoiseTithe x = Check.street("a00 h11 h11");
        CHECK.refused("hour(4)", x, () -> x.hour(4), NoiseTithe.BAD);
        CHECK.refused("hour(-1)", x, () -> x.hour(-1), NoiseTithe.BAD);
        CHECK.refused("hour(256)", x, () -> x.hour(256), NoiseTithe.BAD);
        CHECK.refused("hour(min)", x, () -> x.hour(Integer.MIN_VALUE), NoiseTithe.BAD);
        for (int k = 0; k < 40; k++) {
            CHECK.due("HOUR " + k, x.hour(k % 4), 0);
        }
        CHECK.due("count(1)", x.count(1), 40);
        CHECK.refused("hour(0) behind 40", x, () -> x.hour(0), NoiseTithe.FULL);
        CHECK.refused("hour(4) behind 40", x, () -> x.hour(4), NoiseTithe.BAD);
        x.undo(39);
        CHECK.due("hour(3) behind undo(39)", x.hour(3), 0);
        CHECK.due("count(1) behind it", x.count(1), 40);
        NoiseTithe eight = Check.street(Check.ALL_KINDS);
        CHECK.refused("hour(256) of 8 HOUSES", eight, () -> eight.hour(256), NoiseTithe.BAD);
    }

    private static void undo() {
        NoiseTithe x = Check.street(Check.ALL_KINDS);
        x.hour(255);
        x.hour(255);
        x.hour(2);
        CHECK.told("jar() of three HOURS", x, x.jar(), 58, 26);
        x.hour(255);
        CHECK.told("jar() of four HOURS", x, x.jar(), 58, 26 + 36);
        CHECK.due("undo(3): the last one", x.undo(3), 1);
        CHECK.told("jar() behind undo(3)", x, x.jar(), 58, 26);
        CHECK.due("undo(3): none", x.undo(3), 0);
        CHECK.told("jar() behind none undone", x, x.jar(), 58, 26);
        CHECK.due("made(1) behind none undone", x.made(1), 42);
        CHECK.due("undo(1)", x.undo(1), 2);
        CHECK.told("jar() behind undo(1)", x, x.jar(), 36, 0);
        CHECK.due("count(1) behind undo(1)", x.count(1), 1);
        CHECK.due("made(0) behind undo(1)", x.made(0), 5);
        CHECK.due("made(1) behind undo(1)", x.made(1), 14);
        CHECK.found("loud(1) behind undo(1)", x, () -> x.loud(1), Check.BEYOND);
        CHECK.refused("undo(2)", x, () -> x.undo(2), NoiseTithe.BAD);
        CHECK.refused("undo(-1)", x, () -> x.undo(-1), NoiseTithe.BAD);
        CHECK.told("hour(4) anew", x, x.hour(4), 35, 0);
        CHECK.due("loud(1) anew", x.loud(1), 4);
        CHECK.due("undo(0)", x.undo(0), 2);
        CHECK.told("jar() behind undo(0)", x, x.jar(), 0, 0);
        CHECK.due("made(1) behind undo(0)", x.made(1), 0);
        CHECK.due("undo(0) of none", x.undo(0), 0);
        NoiseTithe none = new NoiseTithe();
        CHECK.due("undo(0) without HOUSES", none.undo(0), 0);
        CHECK.refused("undo(1) without HOUSES", none, () -> none.undo(1), NoiseTithe.BAD);
    }

    private static void undoKeepsTheRest() {
        NoiseTithe x = Check.street(Check.ALL_KINDS);
        x.hour(2);
        x.wall(1, 4);
        x.hour(2);
        x.altar(1);
        x.wall(1, 7);
        x.pay(1, 9);
        x.debt(1, 2, 3);
        x.keep(1);
        CHECK.due("made(1)", x.made(1), 24);
        CHECK.due("undo(1)", x.undo(1), 1);
        CHECK.due("made(1): as it was then", x.made(1), 14);
        CHECK.told("jar(): as it was then", x, x.jar(), 12, 0);
        CHECK.due("wall stays", x.wall(1, 7), 7);
        CHECK.due("altar stays", x.altar(1), 1);
        CHECK.told("PAID stays", x, x.tithe(1), 1, -8);
        CHECK.due("DEBT stays", x.debt(1, 2, 3), 3);
        CHECK.due("kept STREETS stay", x.count(5), 1);
    }

    private static void jar() {
        NoiseTithe none = new NoiseTithe();
        CHECK.told("jar() at first", none, none.jar(), 0, 0);
        NoiseTithe x = Check.street("a02 f90 f90 f90 f90");
        x.hour(15);
        x.wall(0, 1);
        CHECK.told("jar() behind one HOUR", x, x.jar(), 58, 6);
        x.hour(15);
        CHECK.told("jar() behind two HOURS", x, x.jar(), 58, 6 + 63);
        x.hour(0);
        CHECK.told("jar() behind three HOURS", x, x.jar(), 56, 69);
    }

    private static void loud() {
        NoiseTithe x = Check.street(Check.ALL_KINDS);
        CHECK.found("loud(0) without HOURS", x, () -> x.loud(0), Check.BEYOND);
        x.hour(255);
        x.hour(18);
        x.hour(3);
        x.wall(0, 9);
        CHECK.told("loud(0)", x, x.loud(0), 255, 38);
        CHECK.told("loud(1)", x, x.loud(1), 18, 14);
        CHECK.told("loud(2): less what ran over", x, x.loud(2), 3, 12);
        CHECK.refused("loud(-1)", x, () -> x.loud(-1), NoiseTithe.BAD);
        CHECK.refused("loud(min)", x, () -> x.loud(Integer.MIN_VALUE), NoiseTithe.BAD);
        CHECK.found("loud(3)", x, () -> x.loud(3), Check.BEYOND);
        CHECK.found("loud(max)", x, () -> x.loud(Integer.MAX_VALUE), Check.BEYOND);
        NoiseTithe many = Check.street("a00 h11");
        for (int k = 0; k < 40; k++) {
            many.hour(1);
        }
        CHECK.told("loud(39)", many, many.loud(39), 1, 0);
        CHECK.found("loud(40)", many, () -> many.loud(40), Check.BEYOND);
    }

    private static void made() {
        NoiseTithe x = Check.street(Check.ALL_KINDS);
        x.hour(255);
        x.hour(255);
        x.wall(1, 10);
        x.hour(2);
        x.hour(1);
        CHECK.due("made(0)", x.made(0), 15);
        CHECK.due("made(1), what ran over, too", x.made(1), 32);
        CHECK.due("made(3) of an exempt one", x.made(3), 14);
        CHECK.due("made(4) of a MUTE one", x.made(4), 0);
        CHECK.refused("made(-1)", x, () -> x.made(-1), NoiseTithe.BAD);
        CHECK.refused("made(8)", x, () -> x.made(8), NoiseTithe.BAD);
    }

    private static void tithe() {
        NoiseTithe x = Check.street("a09 h90 f90 b90 c90 h10");
        for (int k = 0; k < 39; k++) {
            x.altar(k % 2 * 3);
            x.hour(15);
        }
        CHECK.due("made(0)", x.made(0), 9 * 20 + 6 * 19);
        CHECK.told("tithe(0)", x, x.tithe(0), 1, 29);
        CHECK.due("made(1)", x.made(1), 17 * 20 + 16 * 19);
        CHECK.told("tithe(1)", x, x.tithe(1), 1, 64);
        CHECK.told("tithe(2) of BELLS", x, x.tithe(2), 1, 0);
        CHECK.told("tithe(3) of a CHOIR", x, x.tithe(3), 1, 0);
        CHECK.told("tithe(4) of a silent one", x, x.tithe(4), 1, 0);
        x.debt(0, 3, 5);
        x.debt(2, 0, 5);
        CHECK.told("tithe(3) of a CHOIR that is owed", x, x.tithe(3), 1, 0);
        CHECK.told("tithe(2) of BELLS in debt", x, x.tithe(2), 1, 0);
        x.debt(3, 4, 1);
        CHECK.due("made(3)", x.made(3), 6 * 20 + 9 * 19);
        CHECK.told("tithe(3) of a CHOIR in debt", x, x.tithe(3), 1, 29);
        x.pay(3, 9);
        x.pay(2, 7);
        x.pay(4, 1);
        CHECK.told("tithe(3), PAID 9", x, x.tithe(3), 1, 20);
        CHECK.told("tithe(2) of BELLS, PAID 7", x, x.tithe(2), 1, -7);
        CHECK.told("tithe(4), PAID 1", x, x.tithe(4), 1, -1);
        x.debt(3, 4, 0);
        CHECK.told("tithe(3) of a CHOIR out of debt, PAID 9", x, x.tithe(3), 1, -9);
        CHECK.refused("tithe(-1)", x, () -> x.tithe(-1), NoiseTithe.BAD);
        CHECK.refused("tithe(5)", x, () -> x.tithe(5), NoiseTithe.BAD);
    }

    private static void pay() {
        NoiseTithe x = Check.street("a00 h11 h11");
        CHECK.due("pay(0, 0)", x.pay(0, 0), 0);
        CHECK.due("pay(1, 99)", x.pay(1, 99), 99);
        CHECK.due("pay(1, 1)", x.pay(1, 1), 100);
        CHECK.due("asked() behind pay", x.asked(), 0);
        CHECK.refused("pay(-1, 1)", x, () -> x.pay(-1, 1), NoiseTithe.BAD);
        CHECK.refused("pay(2, 1)", x, () -> x.pay(2, 1), NoiseTithe.BAD);
        CHECK.refused("pay(0, -1)", x, () -> x.pay(0, -1), NoiseTithe.BAD);
        CHECK.refused("pay(0, 100)", x, () -> x.pay(0, 100), NoiseTithe.BAD);
        for (int k = 1; k <= 10; k++) {
            CHECK.due("pay(0, 99)", x.pay(0, 99), 99 * k);
        }
        CHECK.refused("pay(0, 10) to 1000", x, () -> x.pay(0, 10), NoiseTithe.SPENT);
        CHECK.due("pay(0, 9) to 999", x.pay(0, 9), 999);
        CHECK.refused("pay(0, 1) to 1000", x, () -> x.pay(0, 1), NoiseTithe.SPENT);
        CHECK.refused("pay(0, 100) ahead of SPENT", x, () -> x.pay(0, 100), NoiseTithe.BAD);
        CHECK.due("pay(0, 0) at 999", x.pay(0, 0), 999);
    }

    private static void due() {
        NoiseTithe none = new NoiseTithe();
        CHECK.told("due() without HOUSES", none, none.due(), 0, NoiseTithe.NONE);
        NoiseTithe x = Check.street("a00 h90 f90 b90 f93 h90");
        x.wall(4, 0);
        CHECK.told("due() without HOURS", x, x.due(), 0, NoiseTithe.NONE);
        for (int k = 0; k < 5; k++) {
            x.hour(31);
        }
        CHECK.told("due(): 4 8 - 6 2", x, x.due(), 20, 1);
        x.pay(1, 2);
        CHECK.told("due(): 4 6 - 6 2, the first", x, x.due(), 18, 1);
        x.pay(1, 10);
        CHECK.told("due(): 4 -4 - 6 2", x, x.due(), 12, 3);
        x.pay(0, 4);
        x.pay(3, 6);
        CHECK.told("due(): 0 -4 - 0 2", x, x.due(), 2, 4);
        x.pay(4, 1);
        CHECK.told("due(): 0 -4 - 0 1", x, x.due(), 1, 4);
        x.pay(4, 1);
        CHECK.told("due(): none above 0", x, x.due(), 0, NoiseTithe.NONE);
    }

    private static void keep() {
        NoiseTithe none = new NoiseTithe();
        CHECK.refused("keep(0) without HOUSES", none, () -> none.keep(0), NoiseTithe.STATE);
        CHECK.refused("keep(3) without HOUSES", none, () -> none.keep(3), NoiseTithe.BAD);
        NoiseTithe x = Check.street(Check.ALL_KINDS);
        CHECK.due("keep(2)", x.keep(2), 0);
        x.hour(7);
        x.hour(9);
        CHECK.due("keep(0)", x.keep(0), 2);
        CHECK.due("count(5)", x.count(5), 2);
        x.undo(1);
        CHECK.due("keep(0) again", x.keep(0), 1);
        CHECK.due("count(5) again", x.count(5), 2);
        CHECK.due("on(0)", x.on(0), 1);
        CHECK.due("on(2)", x.on(2), 0);
        CHECK.refused("keep(-1)", x, () -> x.keep(-1), NoiseTithe.BAD);
        CHECK.refused("keep(3)", x, () -> x.keep(3), NoiseTithe.BAD);
    }

    private static void on() {
        NoiseTithe x = Check.street(Check.ALL_KINDS);
        CHECK.found("on(0) without a kept STREET", x, () -> x.on(0), Check.NOTHING);
        CHECK.refused("on(-1)", x, () -> x.on(-1), NoiseTithe.BAD);
        CHECK.refused("on(3)", x, () -> x.on(3), NoiseTithe.BAD);
        Check.fillRow(x, 3, 1, 2);
        x.hour(255);
        x.wall(2, 0);
        x.hour(255);
        x.altar(5);
        x.pay(1, 9);
        x.debt(5, 2, 8);
        x.keep(1);
        long kept = x.digest();
        x.undo(0);
        x.hour(1);
        x.hour(2);
        x.hour(4);
        x.wall(2, 77);
        x.altar(0);
        x.pay(1, 5);
        x.debt(5, 2, 0);
        x.debt(7, 0, 6);
        x.jar();
        int asked = x.asked();
        CHECK.due("on(1)", x.on(1), 2);
        CHECK.due("digest() behind on(1)", x.digest(), kept);
        CHECK.due("asked() behind on(1)", x.asked(), asked);
        CHECK.told("loud(1) behind on(1)", x, x.loud(1), 255, 24);
        CHECK.due("undo(1) behind on(1)", x.undo(1), 1);
        CHECK.told("jar() behind undo(1)", x, x.jar(), 36, 0);
        CHECK.due("made(2) behind undo(1)", x.made(2), 1);
        CHECK.due("made(1) behind undo(1)", x.made(1), 14);
        x.hour(4);
        x.lay(3, 0, 50);
        CHECK.due("on(1) once more", x.on(1), 2);
        x.lay(3, 0, 1);
        CHECK.due("digest() behind on(1) once more", x.digest(), kept);
        CHECK.due("findings(1)", x.findings(Check.NOTHING), 1);
        CHECK.found("on(0): another place", x, () -> x.on(0), Check.NOTHING);
    }

    private static void onThenUndo() {
        NoiseTithe x = Check.street("a00 f90 f90 f90 f90");
        x.hour(15);
        x.hour(3);
        x.hour(8);
        x.keep(0);
        x.undo(0);
        x.hour(0);
        x.hour(1);
        x.hour(2);
        x.on(0);
        CHECK.told("jar() behind on(0)", x, x.jar(), 60, 6 + 35 + 15);
        CHECK.told("loud(0) behind on(0)", x, x.loud(0), 15, 60);
        CHECK.told("loud(1) behind on(0)", x, x.loud(1), 3, 0);
        CHECK.due("undo(2) behind on(0)", x.undo(2), 1);
        CHECK.told("jar() behind undo(2)", x, x.jar(), 60, 6 + 35);
        CHECK.due("made(0) behind undo(2)", x.made(0), 36);
        CHECK.due("undo(1) behind undo(2)", x.undo(1), 1);
        CHECK.told("jar() behind undo(1)", x, x.jar(), 60, 6);
        CHECK.due("undo(0) behind undo(1)", x.undo(0), 1);
        CHECK.told("jar() behind undo(0)", x, x.jar(), 0, 0);
    }
}
