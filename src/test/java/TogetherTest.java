/** Promises 33 to 37: the cheapest, and who may be loud together. */
public final class TogetherTest {
    private static final Check CHECK = new Check();

    public static void main(String[] args) {
        wedding();
        feathers();
        feathersChangeNothingElse();
        feathersRefused();
        most();
        hours();
        hoursRefused();
        year();
        yearRefused();
        CHECK.end();
    }

    private static void wedding() {
        // SOUND 9 16 4 7 0 9 6 8, RIPPLE 5 14 1 7 0 6 1 4
        NoiseTithe x = Check.street(Check.ALL_KINDS);
        CHECK.told("wedding(0)", x, x.wedding(0), 0, 0);
        CHECK.told("wedding(1)", x, x.wedding(1), 1, 4);
        CHECK.told("wedding(4)", x, x.wedding(4), 1, 4);
        CHECK.told("wedding(5)", x, x.wedding(5), 1, 64);
        CHECK.told("wedding(6)", x, x.wedding(6), 1, 64);
        CHECK.told("wedding(10)", x, x.wedding(10), 2, 68);
        CHECK.told("wedding(11)", x, x.wedding(11), 5, 132);
        CHECK.told("wedding(59): all but the MUTE", x, x.wedding(59), 38, 239);
        CHECK.refused("wedding(60)", x, () -> x.wedding(60), NoiseTithe.NONE);
        CHECK.refused("wedding(200)", x, () -> x.wedding(200), NoiseTithe.NONE);
        CHECK.refused("wedding(-1)", x, () -> x.wedding(-1), NoiseTithe.BAD);
        CHECK.refused("wedding(201)", x, () -> x.wedding(201), NoiseTithe.BAD);
        NoiseTithe far = Check.street("a90 h80 h80 u90 h05");
        CHECK.told("wedding(8) without RIPPLES", far, far.wedding(8), 0, 1);
        CHECK.told("wedding(9) without RIPPLES", far, far.wedding(9), 0, 3);
        CHECK.refused("wedding(17)", far, () -> far.wedding(17), NoiseTithe.NONE);
        NoiseTithe none = new NoiseTithe();
        CHECK.told("wedding(0) without HOUSES", none, none.wedding(0), 0, 0);
        CHECK.refused("wedding(1) without HOUSES", none, () -> none.wedding(1), NoiseTithe.NONE);
    }

    private static void feathers() {
        NoiseTithe x = Check.street(Check.ALL_KINDS);
        int asked = x.asked();
        CHECK.told("feathers(255, 0, 1)", x, x.feathers(255, 0, 1), 38, asked);
        CHECK.row("feathers(255, 0, 1)", x, 1, 0, 0, 0, 0, 0, 0, 0, 0);
        CHECK.due("feathers(255, 8, 1)", x.feathers(255, 8, 1), 30);
        CHECK.row("feathers(255, 8, 1)", x, 1, 0, 8, 0, 0, 0, 0, 0, 0);
        CHECK.due("feathers(255, 20, 1)", x.feathers(255, 20, 1), 18);
        CHECK.row("feathers(255, 20, 1): 3 3 1 3 0 3 1 4 left", x, 1, 2, 11, 0, 4, 0, 3, 0, 0);
        CHECK.due("feathers(9, 3, 0)", x.feathers(9, 3, 0), 9);
        CHECK.row("feathers(9, 3, 0): 4 5 left", x, 0, 1, 0, 0, 2, 0, 0, 0, 0);
        CHECK.due("feathers(133, 20, 5): all are 0", x.feathers(133, 20, 5), 0);
        CHECK.row("feathers(133, 20, 5)", x, 5, 5, 0, 1, 0, 0, 0, 0, 4);
        CHECK.due("feathers(16, 20, 5) of a MUTE", x.feathers(16, 20, 5), 0);
        CHECK.row("feathers(16, 20, 5) of a MUTE", x, 5, 0, 0, 0, 0, 0, 0, 0, 0);
        CHECK.due("feathers(0, 20, 5) of none", x.feathers(0, 20, 5), 0);
        CHECK.due("feathers(2, 13, 5)", x.feathers(2, 13, 5), 1);
        CHECK.due("feathers(2, 14, 5)", x.feathers(2, 14, 5), 0);
        NoiseTithe two = Check.street("a00 h30 h40");
        CHECK.due("feathers(3, 1, 0) of 3 3", two.feathers(3, 1, 0), 5);
        CHECK.row("feathers(3, 1, 0): the first", two, 0, 1, 0);
        CHECK.due("feathers(3, 2, 0) of 3 3", two.feathers(3, 2, 0), 4);
        CHECK.row("feathers(3, 2, 0): one each", two, 0, 1, 1);
    }

    private static void feathersChangeNothingElse() {
        NoiseTithe x = Check.street(Check.ALL_KINDS);
        Check.fillRow(x, 4, 1, 2, 3);
        x.feathers(255, 20, 4);
        CHECK.row("feathers to a ROW anew", x, 4, 2, 11, 0, 4, 0, 3, 0, 0);
        CHECK.due("count(6)", x.count(6), 1);
        CHECK.told("the WALL is as it was", x, x.house(1, 2), 1, 0);
        x.tear(4);
        CHECK.due("digest() without the ROW", x.digest(), Check.street(Check.ALL_KINDS).digest());
    }

    private static void feathersRefused() {
        NoiseTithe x = Check.street("a00 h30 h40");
        CHECK.refused("feathers(4, 1, 0)", x, () -> x.feathers(4, 1, 0), NoiseTithe.BAD);
        CHECK.refused("feathers(-1, 1, 0)", x, () -> x.feathers(-1, 1, 0), NoiseTithe.BAD);
        CHECK.refused("feathers(1, -1, 0)", x, () -> x.feathers(1, -1, 0), NoiseTithe.BAD);
        CHECK.refused("feathers(1, 21, 0)", x, () -> x.feathers(1, 21, 0), NoiseTithe.BAD);
        CHECK.refused("feathers(1, 1, -1)", x, () -> x.feathers(1, 1, -1), NoiseTithe.BAD);
        CHECK.refused("feathers(1, 1, 6)", x, () -> x.feathers(1, 1, 6), NoiseTithe.BAD);
        NoiseTithe none = new NoiseTithe();
        CHECK.refused("feathers(0, 1, 0) without HOUSES", none, () -> none.feathers(0, 1, 0), NoiseTithe.STATE);
        CHECK.refused("feathers(1, 1, 0) without HOUSES", none, () -> none.feathers(1, 1, 0), NoiseTithe.BAD);
    }

    private static void most() {
        NoiseTithe x = Check.street(Check.ALL_KINDS);
        CHECK.told("most() of an empty JAR", x, x.most(), 7, 239);
        x.hour(2);
        x.hour(2);
        CHECK.told("most(), 24 in THE JAR: 36 left, 38 wanted", x, x.most(), 6, 111);
        x.hour(255);
        CHECK.told("most(), 58 in THE JAR: 1 and 1", x, x.most(), 2, 68);
        NoiseTithe tight = Check.street("a00 f90 f90 f90 h60 u10");
        CHECK.told("most(): 18 17 16 3 together 54", tight, tight.most(), 4, 15);
        tight.hour(8);
        tight.hour(8);
        CHECK.told("most(): 60 and no more", tight, tight.most(), 4, 15);
        tight.hour(8);
        CHECK.told("most(): one goes, the least set", tight, tight.most(), 3, 7);
        NoiseTithe full = Check.street("a00 f90 f90 f90 f90 h00");
        full.hour(15);
        CHECK.told("most() of a full JAR", full, full.most(), 1, 16);
        NoiseTithe none = new NoiseTithe();
        CHECK.told("most() without HOUSES", none, none.most(), 0, 0);
    }

    private static void hours() {
        NoiseTithe x = Check.street(Check.ALL_KINDS);
        x.hour(255);
        CHECK.told("hours(0, 1)", x, x.hours(0, 1), 0, 0);
        CHECK.told("hours(255, 200)", x, x.hours(255, 200), 1, 255);
        CHECK.told("hours(255, 38)", x, x.hours(255, 38), 1, 255);
        CHECK.told("hours(255, 37)", x, x.hours(255, 37), 2, 1);
        CHECK.told("hours(255, 20): 5 14, the others 19", x, x.hours(255, 20), 2, 3);
        CHECK.told("hours(16, 1) of a MUTE", x, x.hours(16, 1), 1, 16);
        CHECK.told("hours(20, 1) of a MUTE and 1", x, x.hours(20, 1), 1, 20);
        CHECK.told("hours(68, 1): 1, 1", x, x.hours(68, 1), 2, 4);
        CHECK.told("hours(84, 1): 1, 0 and 1", x, x.hours(84, 1), 2, 4);
        CHECK.told("hours(41, 11): 5 6, 7", x, x.hours(41, 11), 2, 8);
        CHECK.told("hours(43, 14): 5, 14, 7 6", x, x.hours(43, 14), 3, 1);
        NoiseTithe equal = Check.street("a00 h50 h60 h70 h80 h90");
        CHECK.told("hours(31, 5): one each", equal, equal.hours(31, 5), 5, 1);
        CHECK.told("hours(31, 9): one each", equal, equal.hours(31, 9), 5, 1);
        CHECK.told("hours(31, 10): two each", equal, equal.hours(31, 10), 3, 1);
        CHECK.told("hours(15, 10): two each", equal, equal.hours(15, 10), 2, 3);
        CHECK.due("water behind hours", equal.jar(), 0);
        NoiseTithe pairs = Check.street("a00 h60 h70 h60 h70");
        CHECK.told("hours(15, 10): 6 4, 6 4, not 6 6", pairs, pairs.hours(15, 10), 2, 5);
        NoiseTithe eight = Check.street("a00 f90 f90 f90 f90 f90 f90 f90 f90");
        CHECK.told("hours(255, 18): 18 17 .. 11, one each", eight, eight.hours(255, 18), 8, 1);
        CHECK.refused("hours(240, 13): the first of it is too much", eight, () -> eight.hours(240, 13), NoiseTithe.NONE);
        CHECK.refused("hours(3, 17): the first one is too much", eight, () -> eight.hours(3, 17), NoiseTithe.NONE);
    }

    private static void hoursRefused() {
        NoiseTithe x = Check.street(Check.ALL_KINDS);
        x.hours(1, 9);
        CHECK.refused("hours(2, 13): one alone is too much", x, () -> x.hours(2, 13), NoiseTithe.NONE);
        CHECK.refused("hours(255, 13): one is too much", x, () -> x.hours(255, 13), NoiseTithe.NONE);
        CHECK.refused("hours(256, 9)", x, () -> x.hours(256, 9), NoiseTithe.BAD);
        CHECK.refused("hours(-1, 9)", x, () -> x.hours(-1, 9), NoiseTithe.BAD);
        CHECK.refused("hours(0, 0)", x, () -> x.hours(0, 0), NoiseTithe.BAD);
        CHECK.refused("hours(0, 201)", x, () -> x.hours(0, 201), NoiseTithe.BAD);
        NoiseTithe none = new NoiseTithe();
        CHECK.told("hours(0, 1) without HOUSES", none, none.hours(0, 1), 0, 0);
        CHECK.refused("hours(1, 1) without HOUSES", none, () -> none.hours(1, 1), NoiseTithe.BAD);
        none.jar();
        CHECK.refused("hours(0, 0) without HOUSES", none, () -> none.hours(0, 0), NoiseTithe.BAD);
    }

    private static void yearIs(NoiseTithe x, String what, int want, int wantAsked, int... hours) {
        Check.fillRow(x, 0, hours);
        long digest = x.digest();
        CHECK.told("year: " + what, x, x.year(0), want, wantAsked);
        CHECK.due("digest() behind year: " + what, x.digest(), digest);
    }

    private static void year() {
        NoiseTithe x = Check.street(Check.ALL_KINDS);
        x.hour(255);
        yearIs(x, "of none", 0, 0);
        yearIs(x, "14 - 2, 26 - 2, 38 - 2", 3, 36, 2, 2, 2);
        yearIs(x, "12, 24, 36, 48, over", 4, 48, 2, 2, 2, 2, 2);
        yearIs(x, "12, 24, 36, 48, 52, over", 5, 52, 2, 2, 2, 2, 32, 2);
        yearIs(x, "36, over", 1, 36, 255, 255, 0);
        yearIs(x, "LEAK of what there is", 2, 0, 4, 0);
        NoiseTithe full = Check.street("a00 f90 f90 f90 f90");
        yearIs(full, "over at once", 0, 0, 15, 0);
        yearIs(full, "18, 36, 54", 3, 54, 1, 1, 1);
        yearIs(full, "18, 36, 54, over", 3, 54, 1, 1, 1, 1);
        NoiseTithe exact = Check.street("a00 f90 f92");
        yearIs(exact, "15, 30, 45, 60, 60, over", 5, 60, 2, 2, 2, 2, 0, 2);
        yearIs(exact, "a year of 40 HOURS", 40, 0, new int[40]);
    }

    private static void yearRefused() {
        NoiseTithe none = new NoiseTithe();
        CHECK.refused("year(6) without HOUSES", none, () -> none.year(6), NoiseTithe.BAD);
        CHECK.refused("year(0) without HOUSES: STATE ahead of NOTHING", none, () -> none.year(0), NoiseTithe.STATE);
        NoiseTithe x = Check.street("a00 f90 f90");
        CHECK.refused("year(-1)", x, () -> x.year(-1), NoiseTithe.BAD);
        CHECK.refused("year(6)", x, () -> x.year(6), NoiseTithe.BAD);
        CHECK.found("year(0) without the ROW", x, () -> x.year(0), Check.NOTHING);
        Check.fillRow(x, 0, 3, 3, 3, 4);
        CHECK.found("year(0): no set, behind what runs over", x, () -> x.year(0), Check.UNLIKE);
        Check.fillRow(x, 0, -1);
        CHECK.found("year(0) of -1", x, () -> x.year(0), Check.UNLIKE);
    }
}
