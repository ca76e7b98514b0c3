import java.util.ArrayList;
import java.util.List;

/** Promises 44 to 50: what is told, sentence by sentence. */
final class BoundsOfTold extends Bounds {
    BoundsOfTold(Sentences sentences) {
        super(sentences);
    }

    void hold() {
        asked();
        askedByEach();
        fraction();
        count();
        finding();
        digest();
        digestOfMuch();
    }

    private void asked() {
        s.promise(44, "0 before.", () -> {
            due("asked() of a new object", fresh().asked(), 0);
            due("asked() behind calls that do not tell", street(Check.ALL_KINDS).asked(), 0);
            NoiseTithe refused = fresh();
            refused.at(0, 0);
            refused.rises();
            refused.hour(0);
            due("asked() behind refused ones", refused.asked(), 0);
        });
        s.promise(44, "that was not refused (nor NONE) told", () -> {
            NoiseTithe x = withRow(street("a00 h20 h40"), 0, 77);
            x.row(1, 0);
            x.at(0, 0);
            x.lay(0, 1, 5);
            x.at(0, 1);
            x.mean(1);
            x.house(2, 0);
            x.hour(4);
            x.loud(0);
            x.tithe(2);
            x.fits(1);
            x.sure(1);
            x.silence(1);
            x.wedding(99);
            x.hours(3, 2);
            x.year(2);
            x.balance(2);
            x.crickets(0, 0);
            due("asked() behind calls refused or NONE", x.asked(), 77);
            x.due();
            due("asked() behind due(): NONE is told, not answered", x.asked(), NONE);
        });
    }

    /** What a call tells by asked(), when another number was told ahead of it. */
    private void tells(String call, Tried tried, int want) {
        NoiseTithe x = withRow(street("a02 f90 h94 u30 c50"), 0, 54321);
        x.row(1, 2);
        x.lay(1, 0, 3);
        x.lay(1, 1, 9);
        x.debt(0, 3, 6);
        x.hour(1);
        x.at(0, 0);
        tried.with(x, 0);
        due("asked() behind " + call, x.asked(), want);
    }

    private void askedByEach() {
        s.promise(44, "What the latest lay(), at(), mean(), house(), hour(), jar(), loud(), tithe(), due(), fits(), "
                + "sure(), silence(), rises(), wedding(), most(), hours(), year(), balance(), crickets()", () -> {
            tells("lay(1, 1, 0)", (x, v) -> x.lay(1, 1, 0), 9);
            tells("at(1, 0)", (x, v) -> x.at(1, 0), 3);
            tells("mean(1)", (x, v) -> x.mean(1), 6);
            tells("house(1, 2)", (x, v) -> x.house(1, 2), 4);
            tells("hour(0)", (x, v) -> x.hour(0), 0);
            tells("jar()", (x, v) -> x.jar(), 0);
            tells("loud(0)", (x, v) -> x.loud(0), 18);
            tells("tithe(0)", (x, v) -> x.tithe(0), 1);
            tells("due()", (x, v) -> x.due(), 0);
            tells("fits(6)", (x, v) -> x.fits(6), 10);
            tells("sure(6)", (x, v) -> x.sure(6), 5);
            tells("silence(6)", (x, v) -> x.silence(6), 0);
            tells("rises()", (x, v) -> x.rises(), 24);
            tells("wedding(9)", (x, v) -> x.wedding(9), 2);
            tells("most()", (x, v) -> x.most(), 11);
            tells("hours(3, 18)", (x, v) -> x.hours(3, 18), 1);
            tells("year(1)", (x, v) -> x.year(1), 38);
            tells("balance(0)", (x, v) -> x.balance(0), -6);
            tells("crickets(1, 1)", (x, v) -> x.crickets(1, 1), 0);
        });
    }

    private void fractionIs(String what, NoiseTithe x, long upper, long lower) {
        due("upper() " + what, x.upper(), upper);
        due("lower() " + what, x.lower(), lower);
    }

    private void fraction() {
        s.promise(45, "The upper number of the fraction that was told last; 0 before.", () -> {
            due("upper() of a new object", fresh().upper(), 0);
            due("upper() behind what tells none", behindHours(Check.ALL_KINDS, 3, 255).upper(), 0);
            NoiseTithe x = street("a00 h60 h20");
            x.sings();
            fractionIs("behind sings()", x, 7, 12);
            x.odds(0, 1);
            fractionIs("behind odds() that are 0", x, 0, 1);
        });
        s.promise(46, "Its lower number; 1 before.", () -> {
            due("lower() of a new object", fresh().lower(), 1);
            due("lower() behind what tells none", behindHours(Check.ALL_KINDS, 3, 255).lower(), 1);
            NoiseTithe x = street("a00 h60 h20");
            x.sings();
            x.odds(2, 1);
            x.odds(0, 99);
            x.street(0);
            fractionIs("behind refused ones, and a STREET anew", x, 7, 12);
        });
    }

    private void countsAre(NoiseTithe x, int... want) {
        for (int what = 0; what <= 7; what++) {
            due("count(" + what + ")", x.count(what), want[what]);
        }
    }

    private void count() {
        s.promise(47, "0 HOUSES, 1 the HOUR, 2 MUFFLED ones (MUTE, too), 3 BELLS (CHOIRS, too), 4 those exempt now, "
                + "5 kept STREETS, 6 ROWS, 7 TEXTS that are there.", () -> {
            countsAre(fresh(), 0, 0, 0, 0, 0, 0, 0, 0);
            NoiseTithe full = behindHours("a00 m00 u00 m00 u00 m00 u00 m00 u00", 40, 0);
            for (int r = 0; r < 6; r++) {
                full.row(r, 0);
            }
            for (int t = 0; t < 4; t++) {
                full.text(t, 0);
            }
            for (int k = 0; k < 3; k++) {
                full.keep(k);
                full.keep(k);
            }
            countsAre(full, 8, 40, 8, 0, 0, 3, 6, 4);
            NoiseTithe choirs = street("a00 b00 c00 c00 c00 b00 c00 c00 c00");
            countsAre(choirs, 8, 0, 0, 8, 8, 0, 0, 1);
            choirs.debt(1, 0, 1);
            choirs.debt(7, 6, 99);
            choirs.debt(0, 7, 99);
            countsAre(choirs, 8, 0, 0, 8, 6, 0, 0, 1);
        });
        s.promise(47, "BAD.", () -> {
            badOutside("count(what)", Bounds::fresh, 0, 7, (x, what) -> x.count(what));
            badOutside("count(what) of a STREET", () -> street(FORGES), 0, 7, (x, what) -> x.count(what));
        });
    }

    private void finding() {
        s.promise(48, "The latest FINDING (0 before any).", () -> {
            NoiseTithe x = fresh();
            due("finding() of a new object", x.finding(), 0);
            x.row(9, 9);
            x.altar(0);
            x.silence(0);
            due("finding() behind BAD, STATE, NONE", x.finding(), 0);
            x.row(0, -1);
            due("finding() behind SIZE", x.finding(), SIZE);
            x.tear(0);
            due("finding() behind NOTHING", x.finding(), NOTHING);
            x.row(0, 0);
            x.row(0, 41);
            due("finding() behind calls without one", x.finding(), NOTHING);
        });
        s.promise(49, "How often a FINDING (1 .. 5) was answered.", () -> {
            NoiseTithe x = street("a00 h10");
            for (int f = 1; f <= 5; f++) {
                due("findings(" + f + ") before", x.findings(f), 0);
            }
            for (int k = 0; k < 300; k++) {
                x.tear(0);
            }
            x.loud(0);
            x.mark(0, 1);
            x.sure(9);
            x.text(0, -1);
            int[] want = {0, 300, 1, 1, 1, 1};
            for (int f = 1; f <= 5; f++) {
                due("findings(" + f + ")", x.findings(f), want[f]);
            }
            due("finding()", x.finding(), SIZE);
            x.street(0);
            due("findings(1) behind a STREET anew", x.findings(1), 300);
        });
        s.promise(49, "BAD.", () -> badOutside("findings(f)", Bounds::fresh, 1, 5, (x, f) -> x.findings(f)));
    }

    private static long digestOf(List<Integer> values) {
        long h = 17;
        for (int v : values) {
            h = 31 * h + v;
        }
        return h;
    }

    private static void addAll(List<Integer> to, int... values) {
        for (int v : values) {
            to.add(v);
        }
    }

    private void digest() {
        s.promise(50, "(0 each without HOUSES)", () -> {
            List<Integer> want = new ArrayList<>();
            addAll(want, 0, 0, 0, 0, 0, 0, 0, 1, 0, 0, 0, 0, -1, -1, -1, -1, -1, -1, -1, -1, -1);
            addAll(want, 3, 'a', '9', '8', -1, -1, -1);
            due("digest() of a98", street("a98").digest(), digestOf(want));
        });
        s.promise(50, "(-1: missing)", () -> {
            List<Integer> want = new ArrayList<>();
            addAll(want, 0, 0, 0, 0, 0, 0, 0, 0, 0, 0, 0, 0, -1, -1, -1, -1, -1, -1, -1, -1, -1, -1, -1, -1, -1);
            due("digest() of a new object", fresh().digest(), digestOf(want));
            NoiseTithe x = fresh();
            x.row(5, 0);
            x.text(3, 0);
            want.clear();
            addAll(want, 0, 0, 0, 0, 0, 0, 1, 1, 0, 0, 0, 0, -1, -1, -1, -1, -1, -1, -1, -1, 0, -1, -1, -1, 0);
            due("digest(): an empty ROW and TEXT are there", x.digest(), digestOf(want));
            x.tear(5);
            due("digest(): a torn ROW is missing", x.digest(), withText(fresh(), 3, "").digest());
        });
        s.promise(50, "what it owes each HOUSE (0 to itself)", () -> {
            NoiseTithe x = street("a00 h10 h10");
            x.debt(0, 1, 99);
            x.text(0, 0);
            List<Integer> want = new ArrayList<>();
            addAll(want, 2, 0, 0, 0, 0, 0, 0, 1, 0, 0, 0, 0);
            addAll(want, 0, 1, 0, 1, 1, 0, 0, 0, 99);
            addAll(want, 0, 1, 0, 1, 0, 0, 0, 0, 0);
            addAll(want, -1, -1, -1, -1, -1, -1, -1, -1, -1, 0, -1, -1, -1);
            due("digest() of two HOUSES", x.digest(), digestOf(want));
        });
        s.promise(50, "of a call that tells by asked(): what it tells, not the 1 that it answers; asked() stays", () -> {
            NoiseTithe x = withRow(street(Check.ALL_KINDS), 0, 77);
            x.at(0, 0);
            x.digest();
            due("asked() behind digest()", x.asked(), 77);
            due("digest() again", x.digest(), x.digest());
        });
    }

    private void digestOfMuch() {
        s.promise(50, "h = 17; then h = 31 h + v for each v", () -> {
            NoiseTithe x = behindHours(FORGES, 40, 255);
            List<Integer> want = new ArrayList<>();
            addAll(want, 8, 40, 0, 0, 0, 1, 6, 4, 4, 0, 60, 40 * 128 - 60);
            int[] ripples = {14, 15, 16, 17, 18, 17, 16, 15};
            for (int i = 0; i < 8; i++) {
                addAll(want, 1, 9, 0, 18, ripples[i], 40 * ripples[i], 0, 0, 0, 0, 0, 0, 0, 0, 0);
            }
            for (int k = 0; k < 40; k++) {
                want.add(255);
            }
            x.keep(2);
            addAll(want, -1, -1, 40);
            for (int r = 0; r < 6; r++) {
                x.row(r, 40);
                x.lay(r, 0, MIN);
                x.lay(r, 39, MAX);
                addAll(want, 40, MIN);
                addAll(want, new int[38]);
                want.add(MAX);
            }
            for (int t = 0; t < 4; t++) {
                x.text(t, 80);
                x.put(t, 79, -128);
                want.add(80);
                for (int i = 0; i < 79; i++) {
                    want.add(32);
                }
                want.add(-128);
            }
            due("digest() of all that can be: it wraps around", x.digest(), digestOf(want));
        });
    }
}
