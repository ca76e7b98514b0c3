/** Promises 33 to 37: the cheapest, and who may be loud together, sentence by sentence. */
final class BoundsOfTogether extends Bounds {
    /** RIPPLES 3 3 2, SOUND 3 4 4, and a MUTE. */
    private static final String FOUR = "a00 h30 h40 h40 u90";

    BoundsOfTogether(Sentences sentences) {
        super(sentences);
    }

    void hold() {
        wedding();
        feathers();
        feathersRefused();
        most();
        hours();
        hoursRefused();
        year();
        yearRefused();
    }

    private static NoiseTithe four() {
        return street(FOUR);
    }

    private void weddingIs(String text, int v, int ripples, int set) {
        NoiseTithe x = street(text);
        told("wedding(" + v + ") of " + text, x, x.wedding(v), ripples, set);
    }

    private void wedding() {
        s.promise(33, "the least RIPPLES of a set whose SOUND together is v (0 .. 200) or more", () -> {
            weddingIs(FOUR, 0, 0, 0);
            weddingIs(FOUR, 1, 2, 4);
            weddingIs(FOUR, 4, 2, 4);
            weddingIs(FOUR, 5, 5, 5);
            weddingIs(FOUR, 11, 8, 7);
            weddingIs(FORGES, 144, 128, 255);
            weddingIs("a00", 0, 0, 0);
        });
        s.promise(33, "the set (bits; the least) by asked()", () -> {
            weddingIs("a00 h60 h70 h80", 6, 6, 1);
            weddingIs("a00 h60 h70 h80", 7, 6, 2);
            weddingIs("a00 h06 h70 h80", 7, 6, 2);
            weddingIs(FORGES, 18, 14, 1);
            weddingIs("a90 h90 h80 u90", 17, 0, 3);
        });
        s.promise(33, "NONE: none.", () -> {
            refusedFor(NONE, "wedding(v)", BoundsOfTogether::four, (x, v) -> x.wedding(v), 12, 200);
            refusedFor(NONE, "wedding(v) of 8 FORGES", () -> street(FORGES), (x, v) -> x.wedding(v), 145, 200);
            refusedFor(NONE, "wedding(v) of a MUTE", () -> street("a00 u90"), (x, v) -> x.wedding(v), 1);
            refusedFor(NONE, "wedding(v) without HOUSES", Bounds::fresh, (x, v) -> x.wedding(v), 1, 200);
        });
        s.promise(33, "BAD.", () -> {
            badOutside("wedding(v)", BoundsOfTogether::four, 0, 200, (x, v) -> x.wedding(v));
            badOutside("wedding(v) without HOUSES", Bounds::fresh, 0, 200, (x, v) -> x.wedding(v));
        });
    }

    private void feathersAre(NoiseTithe x, int set, int n, int want, int... laid) {
        String call = "feathers(" + set + ", " + n + ", 5)";
        int asked = x.asked();
        told(call, x, x.feathers(set, n, 5), want, asked);
        check.row(call, x, 5, laid);
    }

    private void feathers() {
        s.promise(34, "n (0 .. 20) can be laid at HOUSES of a set, each makes a WALL 1 more", () -> {
            feathersAre(street("a00 f90 f90"), 3, 0, 35, 0, 0);
            feathersAre(street("a00 f90 f90"), 3, 1, 34, 1, 0);
            feathersAre(street("a00 f90 f90"), 3, 20, 15, 11, 9);
            feathersAre(street("a00 f90 f90"), 1, 18, 0, 18, 0);
            feathersAre(street("a00 f90 f90"), 1, 17, 1, 17, 0);
            NoiseTithe x = street("a00 f90");
            x.feathers(1, 20, 0);
            told("the WALL is as it was", x, x.house(0, 2), 1, 0);
        });
        s.promise(34, "the least RIPPLES of the set together then", () -> {
            feathersAre(street(FORGES), 255, 20, 108, 1, 2, 3, 4, 4, 3, 2, 1);
            feathersAre(street(FORGES), 255, 0, 128, new int[8]);
        });
        s.promise(34, "how many at each (0: of HOUSES not of it)", () -> {
            feathersAre(four(), 0, 20, 0, 0, 0, 0, 0);
            feathersAre(four(), 4, 20, 0, 0, 0, 2, 0);
            feathersAre(four(), 8, 20, 0, 0, 0, 0, 0);
            feathersAre(four(), 15, 20, 0, 3, 3, 2, 0);
        });
        s.promise(34, "come to a ROW (anew", () -> {
            feathersAre(withRow(four(), 5, 9, 9), 15, 1, 7, 1, 0, 0, 0);
            feathersAre(withRow(four(), 5, new int[40]), 15, 0, 8, 0, 0, 0, 0);
            NoiseTithe missing = four();
            missing.feathers(0, 0, 0);
            due("count(6) behind feathers to a missing ROW", missing.count(6), 1);
        });
        s.promise(34, "to the HOUSE of the greatest RIPPLE left, the first; none where all are 0)", () -> {
            feathersAre(four(), 3, 1, 5, 1, 0, 0, 0);
            feathersAre(four(), 3, 2, 4, 1, 1, 0, 0);
            feathersAre(four(), 7, 3, 5, 2, 1, 0, 0);
            feathersAre(four(), 7, 5, 3, 2, 2, 1, 0);
            feathersAre(four(), 7, 8, 0, 3, 3, 2, 0);
            feathersAre(four(), 7, 9, 0, 3, 3, 2, 0);
            feathersAre(street(STILL), 255, 20, 0, new int[8]);
        });
    }

    private void feathersRefused() {
        s.promise(34, "BAD", () -> {
            refusedFor(BAD, "feathers(set, 1, 0)", BoundsOfTogether::four, (x, set) -> x.feathers(set, 1, 0),
                    16, 128, 256, -1, MIN, MAX);
            badOutside("feathers(1, n, 0)", BoundsOfTogether::four, 0, 20, (x, n) -> x.feathers(1, n, 0));
            badOutside("feathers(1, 1, r)", BoundsOfTogether::four, 0, 5, (x, r) -> x.feathers(1, 1, r));
            taken("feathers(15, n, 5)", BoundsOfTogether::four, (x, n) -> x.feathers(15, n, 5), 0, 20);
            refusedFor(BAD, "feathers(set, 1, 0) to a ROW that is there", () -> withRow(four(), 0, 7),
                    (x, set) -> x.feathers(set, 1, 0), 16);
        });
        s.promise(34, "STATE: no HOUSES.", () -> {
            refusedFor(STATE, "feathers(0, n, 0) of a new object", Bounds::fresh, (x, n) -> x.feathers(0, n, 0), 0, 20);
            refusedFor(STATE, "feathers(0, 1, r), the ROW is there", () -> withRow(street("a99"), 5, 7),
                    (x, r) -> x.feathers(0, 1, r), 5);
            refusedFor(BAD, "feathers(set, 1, 0) without HOUSES: BAD ahead of STATE", Bounds::fresh,
                    (x, set) -> x.feathers(set, 1, 0), 1, -1);
            badOutside("feathers(0, n, 0) without HOUSES", Bounds::fresh, 0, 20, (x, n) -> x.feathers(0, n, 0));
            badOutside("feathers(0, 1, r) without HOUSES", Bounds::fresh, 0, 5, (x, r) -> x.feathers(0, 1, r));
        });
    }

    private void mostIs(NoiseTithe x, int want, int set) {
        told("most()", x, x.most(), want, set);
    }

    /** RIPPLES 6 1 2 0, and so much water in THE JAR. */
    private static NoiseTithe withWater(int water) {
        NoiseTithe x = street("a00 h60 h20 h40 h30");
        for (int left = water; left > 0; left -= Math.min(left, 6)) {
            x.wall(0, 6 - Math.min(left, 6));
            x.hour(1);
        }
        x.wall(0, 0);
        return x;
    }

    private void most() {
        s.promise(35, "The most HOUSES (MUTE ones aside) that can be loud at once", () -> {
            mostIs(street(STILL), 8, 255);
            mostIs(street("a00 u90"), 0, 0);
            mostIs(street("a00 u90 h90 u90 h90"), 2, 10);
            mostIs(street(FORGES), 4, 135);
            mostIs(fresh(), 0, 0);
            mostIs(street("a99"), 0, 0);
        });
        s.promise(35, "so that nothing runs over now", () -> {
            mostIs(withWater(51), 4, 15);
            mostIs(withWater(52), 3, 11);
            mostIs(withWater(57), 3, 14);
            mostIs(withWater(58), 2, 10);
            mostIs(withWater(59), 2, 10);
            mostIs(withWater(60), 1, 8);
        });
        s.promise(35, "which (bits; the least) by asked()", () -> {
            mostIs(behindHours("a00 f90 f90 f90 f90 h59 h59", 1, 0), 5, 55);
            mostIs(behindHours("a00 f90 f90 f90 f90", 1, 0), 3, 7);
            mostIs(behindHours("a00 f90 f90 f90 f90", 1, 15), 0, 0);
        });
    }

    private void hoursAre(String text, int set, int c, int want, int first) {
        NoiseTithe x = street(text);
        told("hours(" + set + ", " + c + ") of " + text, x, x.hours(set, c), want, first);
    }

    private void hours() {
        s.promise(36, "(without LEAK, THE JAR poured out ahead of each, holding c, 1 .. 200)", () -> {
            hoursAre(STILL, 255, 1, 1, 255);
            hoursAre(FORGES, 255, 200, 1, 255);
            hoursAre(FORGES, 255, 128, 1, 255);
            hoursAre(FORGES, 255, 127, 2, 1);
            NoiseTithe full = behindHours("a09 f90 f90 f90 f90", 1, 15);
            told("hours(15, 66), THE JAR full", full, full.hours(15, 66), 1, 15);
            told("hours(15, 65), a LEAK of 9", full, full.hours(15, 65), 2, 1);
        });
        s.promise(36, "in which all HOUSES of a set can be loud, each once, nothing running over", () -> {
            hoursAre(FORGES, 255, 18, 8, 1);
            hoursAre(FORGES, 255, 33, 4, 3);
            hoursAre(FORGES, 255, 32, 4, 10);
            hoursAre("a00 h10 u90", 3, 1, 1, 3);
            hoursAre("a00 h10 h20", 3, 1, 2, 1);
            hoursAre("a00 h10 h20", 3, 2, 1, 3);
            hoursAre("a00 u90", 1, 1, 1, 1);
        });
        s.promise(36, "who is loud in the first of these (bits; the least such set) by asked()", () -> {
            hoursAre("a00 h50 h60 h70 h80", 15, 10, 2, 3);
            hoursAre("a00 h10 h30 h30", 7, 2, 2, 2);
            hoursAre("a00 h20 h20 h30", 7, 3, 2, 1);
            hoursAre("a00 h50 h60 u90", 7, 5, 2, 1);
            hoursAre("a00 h60 h80 h50 h70", 15, 10, 2, 6);
            hoursAre("a00 h60 h80 h50 h70", 14, 10, 2, 2);
        });
        s.promise(36, "(an empty set: 0, 0)", () -> {
            hoursAre(FORGES, 0, 1, 0, 0);
            hoursAre(FORGES, 0, 200, 0, 0);
            hoursAre("a00", 0, 1, 0, 0);
        });
    }

    private void hoursRefused() {
        s.promise(36, "NONE: one alone is too much.", () -> {
            refusedFor(NONE, "hours(1, c) of RIPPLE 18", () -> street("a00 f90"), (x, c) -> x.hours(1, c), 1, 17);
            refusedFor(NONE, "hours(255, c) of 8 FORGES", () -> street(FORGES), (x, c) -> x.hours(255, c), 1, 17);
            refusedFor(NONE, "hours(128, c) of the last FORGE", () -> street(FORGES), (x, c) -> x.hours(128, c), 14);
            due("hours(1, 18) of RIPPLE 18", street("a00 f90").hours(1, 18), 1);
            due("hours(128, 15) of the last FORGE", street(FORGES).hours(128, 15), 1);
            due("hours(239, 17): who is too much is not of the set", street(FORGES).hours(239, 17), 7);
        });
        s.promise(36, "BAD.", () -> {
            badOutside("hours(0, c)", BoundsOfTogether::four, 1, 200, (x, c) -> x.hours(0, c));
            refusedFor(BAD, "hours(set, 9)", BoundsOfTogether::four, (x, set) -> x.hours(set, 9),
                    16, 128, 256, -1, MIN, MAX);
            refusedFor(BAD, "hours(set, 9) without HOUSES", Bounds::fresh, (x, set) -> x.hours(set, 9), 1, -1);
            badOutside("hours(1, c): BAD ahead of NONE", () -> street("a00 f90"), 1, 200, (x, c) -> x.hours(1, c));
        });
    }

    private void yearIs(String text, int want, int water, int... sets) {
        NoiseTithe x = withRow(street(text), 5, sets);
        told("year(5) of " + sets.length + " HOURS, " + text, x, x.year(5), want, water);
    }

    private void year() {
        String twenty = "a00 f90 h30 f42 h04"; // RIPPLES 18 2 4 0, 24 together
        s.promise(37, "one behind the other from an empty JAR", () -> {
            NoiseTithe x = withRow(behindHours(twenty, 10, 1), 5, 1, 1, 1);
            told("year(5), THE JAR full now", x, x.year(5), 3, 54);
            told("jar() behind year(5)", x, x.jar(), 60, 120);
            due("the HOUR behind year(5)", x.count(1), 10);
        });
        s.promise(37, "the first HOUR in which it would run over (as many as there are: none)", () -> {
            yearIs(twenty, 4, 60, 1, 1, 1, 6);
            yearIs(twenty, 5, 60, 1, 1, 1, 6, 8);
            yearIs(twenty, 4, 54, 15, 15, 10, 4);
            yearIs(twenty, 3, 50, 15, 15, 10, 1);
            yearIs("a00 f90 f90 f90 f90", 0, 0, 15);
            yearIs("a00 f90 h80", 9, 56, 0, 2, 2, 2, 2, 2, 2, 2, 2, 2);
            yearIs(FORGES, 40, 0, new int[40]);
        });
        s.promise(37, "the water at last, or ahead of that one, by asked()", () -> {
            yearIs(twenty, 0, 0);
            yearIs("a05 f90", 1, 13, 1);
            yearIs("a05 f90", 2, 26, 1, 1);
            yearIs("a05 f90", 4, 52, 1, 1, 1, 1);
            yearIs("a05 f90", 4, 52, 1, 1, 1, 1, 1);
            yearIs("a09 h50", 3, 0, 1, 1, 0);
        });
    }

    private void yearRefused() {
        s.promise(37, "BAD", () -> {
            badOutside("year(r)", BoundsOfTogether::four, 0, 5, (x, r) -> x.year(r));
            badOutside("year(r) without HOUSES: ahead of STATE", Bounds::fresh, 0, 5, (x, r) -> x.year(r));
        });
        s.promise(37, "STATE: no HOUSES", () -> {
            refusedFor(STATE, "year(r): ahead of NOTHING", Bounds::fresh, (x, r) -> x.year(r), 0, 5);
            refusedFor(STATE, "year(r): ahead of UNLIKE", () -> withRow(street("a99"), 0, 1), (x, r) -> x.year(r), 0);
            refusedFor(STATE, "year(r) of an empty ROW", () -> withRow(street("a99"), 0), (x, r) -> x.year(r), 0);
        });
        s.promise(37, "NOTHING", () ->
                foundFor(NOTHING, "year(r)", BoundsOfTogether::four, (x, r) -> x.year(r), 0, 5));
        s.promise(37, "UNLIKE: no set.", () -> {
            for (int wrong : new int[] {16, 256, -1, MIN, MAX}) {
                foundFor(UNLIKE, "year(r), first " + wrong, () -> withRow(four(), 0, wrong, 1), (x, r) -> x.year(r), 0);
                foundFor(UNLIKE, "year(r), last " + wrong, () -> withRow(four(), 0, 1, 15, wrong), (x, r) -> x.year(r), 0);
            }
            foundFor(UNLIKE, "year(r), behind the HOUR that runs over",
                    () -> withRow(street("a00 f90 f90 f90 f90"), 0, 15, 15, 16), (x, r) -> x.year(r), 0);
        });
    }
}
