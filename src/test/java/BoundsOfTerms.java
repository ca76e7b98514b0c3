import java.util.ArrayList;
import java.util.List;
import java.util.function.IntSupplier;

/** The document's terms, which all promises share, sentence by sentence. */
final class BoundsOfTerms extends Bounds {
    private static final String TERMS = "Terms";

    BoundsOfTerms(Sentences sentences) {
        super(sentences);
    }

    void hold() {
        order();
        refusedChangesNothing();
        findings();
        fractionsAndSets();
        rowsAndTexts();
        blanks();
        figures();
        houses();
        faults();
        kinds();
        choirs();
        ripples();
        hours();
        tithes();
        sets();
        debtsAndLots();
        calls();
    }

    private static NoiseTithe allKinds() {
        return street(Check.ALL_KINDS);
    }

    private void order() {
        s.hold(TERMS, "Refused is, the first of these that fits, in this order: BAD -1 (a number that is none, or not as "
                + "told), FULL -2, STATE -4 (not now), SPENT -6 (more than told), FINDING -3 (finding() tells which), "
                + "unless a call says so otherwise.", () -> {
            NoiseTithe full = behindHours("a00 h90", 40, 1);
            check.refused("BAD ahead of FULL: hour(2) behind 40", full, () -> full.hour(2), BAD);
            refusedFor(BAD, "BAD ahead of STATE: altar(v)", Bounds::fresh, (x, v) -> x.altar(v), -1, 10);
            refusedFor(BAD, "BAD ahead of STATE: keep(k)", Bounds::fresh, (x, k) -> x.keep(k), -1, 3);
            refusedFor(BAD, "BAD ahead of STATE: year(r)", Bounds::fresh, (x, r) -> x.year(r), -1, 6);
            NoiseTithe spent = street("a00 h90");
            for (int k = 0; k < 10; k++) {
                spent.pay(0, 99);
            }
            check.refused("BAD ahead of SPENT: pay(0, 100) behind 990", spent, () -> spent.pay(0, 100), BAD);
            check.refused("SPENT: pay(0, 99) behind 990", spent, () -> spent.pay(0, 99), SPENT);
            refusedFor(BAD, "BAD ahead of a FINDING: row(r, -1)", Bounds::fresh, (x, r) -> x.row(r, -1), -1, 6);
            refusedFor(BAD, "BAD ahead of a FINDING: odds(i, 200)", () -> allKinds(), (x, i) -> x.odds(i, 200), -1, 8);
            refusedFor(BAD, "BAD ahead of a FINDING: mark(0, kind)", () -> allKinds(), (x, k) -> x.mark(0, k), 0, 6);
            refusedFor(STATE, "STATE ahead of a FINDING: year(r)", Bounds::fresh, (x, r) -> x.year(r), 0);
        });
        s.hold(TERMS, "NONE -9", () -> {
            due("NONE", NoiseTithe.NONE, -9);
            refusedFor(-9, "fits(v)", Bounds::fresh, (x, v) -> x.fits(v), 1);
        });
    }

    /** What a STREET answers later; beside its own calls others, all refused, may have been tried. */
    private static List<Long> answers(boolean refusedOnesToo) {
        NoiseTithe x = withText(withRow(allKinds(), 0, 3, 255, 12), 2, "x");
        x.hour(255);
        x.hour(3);
        x.keep(1);
        x.hour(18);
        x.debt(5, 0, 9);
        x.odds(0, 13);
        if (refusedOnesToo) {
            for (IntSupplier call : refusedOnes(x)) {
                call.getAsInt();
            }
        }
        IntSupplier[] calls = {
            x::asked, () -> x.loud(0), x::asked, () -> x.loud(1), x::asked, () -> x.loud(2), x::asked, x::jar, x::asked,
            () -> x.year(0), x::asked, () -> x.hours(255, 20), x::asked, x::most, x::asked, x::payments,
            () -> x.mark(5, 5), () -> x.undo(2), x::jar, () -> x.made(1), () -> x.on(1), x::jar, () -> x.undo(1), x::jar,
            () -> x.made(4), () -> x.put(0, 3, 1), () -> x.at(0, 2), x::asked, x::net, () -> x.crickets(9, 9)};
        List<Long> answers = new ArrayList<>();
        for (IntSupplier call : calls) {
            answers.add((long) call.getAsInt());
        }
        answers.add(x.upper());
        answers.add(x.lower());
        answers.add(x.digest());
        return answers;
    }

    /** Of each call that can be refused, or be NONE, behind three HOURS on a STREET of all KINDS. */
    private static IntSupplier[] refusedOnes(NoiseTithe x) {
        return new IntSupplier[] {
            () -> x.row(6, 1), () -> x.row(0, 41), () -> x.row(0, -1), () -> x.lay(6, 0, 9), () -> x.lay(1, 0, 9),
            () -> x.lay(0, 3, 9), () -> x.at(6, 0), () -> x.at(1, 0), () -> x.at(0, -1), () -> x.tear(6), () -> x.tear(1),
            () -> x.copy(0, 0, 6, 0, 1), () -> x.copy(0, 0, 0, 1, -1), () -> x.copy(0, 0, 1, 0, 1),
            () -> x.copy(0, 0, 0, 1, 3), () -> x.mean(6), () -> x.mean(1), () -> x.text(4, 1), () -> x.text(0, 81),
            () -> x.text(0, -1), () -> x.put(4, 0, 1), () -> x.put(1, 0, 1), () -> x.put(0, 35, 1), () -> x.fault(4),
            () -> x.fault(1), () -> x.street(4), () -> x.street(1), () -> x.street(2), () -> x.house(8, 0),
            () -> x.house(0, 5), () -> x.mark(8, 1), () -> x.mark(0, 0), () -> x.mark(0, 1), () -> x.altar(10),
            () -> x.wall(8, 1), () -> x.wall(0, 100), () -> x.hour(256), () -> x.undo(4), () -> x.undo(-1),
            () -> x.loud(-1), () -> x.loud(3), () -> x.made(8), () -> x.tithe(8), () -> x.pay(8, 1),
            () -> x.pay(0, 100), () -> x.keep(3), () -> x.on(3), () -> x.on(0), () -> x.fits(201), () -> x.fits(200),
            () -> x.sure(201), () -> x.sure(200), () -> x.odds(8, 13), () -> x.odds(0, 200), () -> x.thunder(0, 0),
            () -> x.joined(6), () -> x.joined(1), () -> x.joined(0), () -> x.silence(201), () -> x.silence(200),
            () -> x.wedding(201), () -> x.wedding(200), () -> x.feathers(256, 1, 0), () -> x.feathers(1, 21, 0),
            () -> x.feathers(1, 1, 6), () -> x.hours(256, 1), () -> x.hours(1, 0), () -> x.hours(2, 1),
            () -> x.year(6), () -> x.year(1), () -> x.debt(0, 0, 1), () -> x.debt(0, 1, 100), () -> x.balance(8),
            () -> x.crickets(0, 1), () -> x.crickets(1, 0), () -> x.count(8), () -> x.findings(6)};
    }

    private void refusedChangesNothing() {
        s.hold(TERMS, "What is refused changes nothing but finding(), findings().", () -> {
            NoiseTithe x = withText(withRow(behindHours(Check.ALL_KINDS, 3, 1), 0, 3, 255, 12), 2, "x");
            int k = 0;
            for (IntSupplier call : refusedOnes(x)) {
                due("refused call " + k++ + ": is refused, or NONE", Math.min(call.getAsInt(), 0) < 0 ? 1 : 0, 1);
            }
            List<Long> without = answers(false);
            List<Long> with = answers(true);
            for (int i = 0; i < without.size(); i++) {
                due("answer " + i + " behind refused calls", with.get(i), without.get(i));
            }
        });
    }

    private void findings() {
        s.hold(TERMS, "1 NOTHING (a ROW, a TEXT, a kept STREET that is missing)", () -> {
            foundFor(1, "tear(r)", Bounds::fresh, (x, r) -> x.tear(r), 0);
            foundFor(1, "fault(t)", Bounds::fresh, (x, t) -> x.fault(t), 0);
            foundFor(1, "on(k)", Bounds::fresh, (x, k) -> x.on(k), 0);
        });
        s.hold(TERMS, "2 BEYOND (a place that there is not)", () -> {
            foundFor(2, "at(0, i)", () -> withRow(fresh(), 0, 7), (x, i) -> x.at(0, i), -1, 1);
            foundFor(2, "put(0, i, 1)", () -> withText(fresh(), 0, "a"), (x, i) -> x.put(0, i, 1), -1, 1);
            foundFor(2, "loud(hour)", () -> allKinds(), (x, hour) -> x.loud(hour), 0);
        });
        s.hold(TERMS, "3 UNLIKE (a HOUSE of another KIND; a number that is none)", () -> {
            foundFor(3, "mark(0, kind)", () -> allKinds(), (x, kind) -> x.mark(0, kind), 1, 5);
            foundFor(3, "joined(r)", () -> withRow(allKinds(), 0, 201), (x, r) -> x.joined(r), 0);
            foundFor(3, "year(r)", () -> withRow(allKinds(), 0, 256), (x, r) -> x.year(r), 0);
        });
        s.hold(TERMS, "4 NOUGHT (shared among none; what can't be)", () -> {
            foundFor(4, "mean(r)", () -> withRow(fresh(), 0), (x, r) -> x.mean(r), 0);
            foundFor(4, "odds(0, v)", () -> allKinds(), (x, v) -> x.odds(0, v), 200);
            foundFor(4, "sure(v)", () -> allKinds(), (x, v) -> x.sure(v), 200);
        });
        s.hold(TERMS, "5 SIZE (fewer than none; not as many as due)", () -> {
            foundFor(5, "row(0, n)", Bounds::fresh, (x, n) -> x.row(0, n), -1);
            foundFor(5, "text(0, n)", Bounds::fresh, (x, n) -> x.text(0, n), -1);
            foundFor(5, "joined(r)", () -> withRow(fresh(), 0), (x, r) -> x.joined(r), 0);
        });
    }

    private void fractionsAndSets() {
        s.hold(TERMS, "Fractions are told by upper(), lower(), in lowest terms, the lower number above 0 (0 by 1).", () -> {
            NoiseTithe x = street("a00 h60 u90 h00");
            x.sings();
            due("6 by 12: upper()", x.upper(), 1);
            due("6 by 12: lower()", x.lower(), 2);
            x.odds(1, 6);
            due("0 by 2: upper()", x.upper(), 0);
            due("0 by 2: lower()", x.lower(), 1);
            x.odds(0, 6);
            due("2 by 2: upper()", x.upper(), 1);
            due("2 by 2: lower()", x.lower(), 1);
        });
        s.hold(TERMS, "Sets (of HOUSES) are told by bits.", () -> {
            NoiseTithe x = street(FORGES);
            told("hour(129): the first and the last HOUSE", x, x.hour(129), 29, 0);
            due("made(0)", x.made(0), 14);
            due("made(7)", x.made(7), 15);
            due("made(1)", x.made(1), 0);
            told("loud(0)", x, x.loud(0), 129, 29);
        });
    }

    private void rowsAndTexts() {
        s.hold(TERMS, "ROWS 0 .. 5 are rows of 0 to 40 ints", () -> {
            taken("row(r, 40)", Bounds::fresh, (x, r) -> x.row(r, 40), 0, 5);
            taken("row(0, n)", Bounds::fresh, (x, n) -> x.row(0, n), 0, 40);
            refusedFor(BAD, "row(r, 40)", Bounds::fresh, (x, r) -> x.row(r, 40), -1, 6);
        });
        s.hold(TERMS, "TEXTS 0 .. 3 rows of 0 to 80 bytes", () -> {
            taken("text(t, 80)", Bounds::fresh, (x, t) -> x.text(t, 80), 0, 3);
            taken("text(0, n)", Bounds::fresh, (x, n) -> x.text(0, n), 0, 80);
            refusedFor(BAD, "text(t, 80)", Bounds::fresh, (x, t) -> x.text(t, 80), -1, 4);
        });
        s.hold(TERMS, "or missing (at first).", () -> {
            due("ROWS at first", fresh().count(6), 0);
            due("TEXTS at first", fresh().count(7), 0);
        });
        s.hold(TERMS, "A STREET (without HOUSES at first)", () -> {
            due("HOUSES at first", fresh().count(0), 0);
            refusedFor(STATE, "altar(v) at first", Bounds::fresh, (x, v) -> x.altar(v), 0);
        });
    }

    private void faultIs(String text, int want) {
        NoiseTithe x = withText(fresh(), 0, text);
        due("fault of '" + text + "'", x.fault(0), want);
        if (want == NONE) {
            taken("street of '" + text + "'", () -> x, (y, t) -> y.street(t), 0);
        } else {
            check.refused("street of '" + text + "'", x, () -> x.street(0), STATE);
        }
    }

    private void blanks() {
        s.hold(TERMS, "blanks (32) ahead, between, behind as many as wanted, none within items", () -> {
            faultIs("a00h00f00", NONE);
            faultIs(" a00 h00 f00 ", NONE);
            faultIs(" ".repeat(30) + "a00" + " ".repeat(20) + "h00" + " ".repeat(24), NONE);
            faultIs("a00" + " ".repeat(77), NONE);
            faultIs(" ".repeat(77) + "a00", NONE);
            faultIs("a 00", 1);
            faultIs("a0 0", 2);
            faultIs("a00 h 00", 5);
            faultIs("a00 h0 0", 6);
            faultIs("a00\th00", 3);
            faultIs("a00\0h00", 3);
            faultIs("a00!h00", 3);
        });
    }

    private void figures() {
        s.hold(TERMS, "The first item is a (97), the place of THE ALTAR (0 .. 9, one figure), "
                + "and the LEAK (0 .. 9, one figure)", () -> {
            due("THE ALTAR at 0", street("a09 h10").altar(0), 0);
            due("THE ALTAR at 9", street("a90 h10").altar(0), 9);
            due("LEAK 0", street("a00 f90").hour(1), 18);
            due("LEAK 9", street("a09 f90").hour(1), 9);
            faultIs("a100", 3);
            faultIs("a/0", 1);
            faultIs("a:0", 1);
            faultIs("a0/", 2);
            faultIs("a0:", 2);
            faultIs("a-1", 1);
            faultIs("`00", 0);
            faultIs("b00", 0);
            faultIs("h00 a00", 0);
            faultIs("a00 a00", 4);
        });
        s.hold(TERMS, "a letter, LOUD (0 .. 9, one figure), and its WALL (0 .. 9, one figure)", () -> {
            NoiseTithe x = street("a00 h09 h90");
            told("LOUD 0", x, x.house(0, 1), 1, 0);
            told("WALL 9", x, x.house(0, 2), 1, 9);
            told("LOUD 9", x, x.house(1, 1), 1, 9);
            told("WALL 0", x, x.house(1, 2), 1, 0);
            faultIs("a00 h/0", 5);
            faultIs("a00 h:0", 5);
            faultIs("a00 h0/", 6);
            faultIs("a00 h0:", 6);
            faultIs("a00 h100", 7);
        });
    }

    private void houses() {
        s.hold(TERMS, "HOUSES (8 at most, none, too; 0, 1, .. as they come, at places 0, 1, ..)", () -> {
            faultIs("a00", NONE);
            faultIs(FORGES, NONE);
            faultIs(FORGES + " h00", 36);
            NoiseTithe x = street("a00 h90 h90 h90 h90 h90 h90 h90 u90");
            for (int i = 0; i < 7; i++) {
                told("RIPPLE at place " + i, x, x.house(i, 4), 1, 9 - i);
            }
            due("distance at place 7", x.mark(7, 4), 7);
        });
    }

    private void faults() {
        s.hold(TERMS, "A FAULT is the first place at which it can't go on so", () -> {
            faultIs("x00 y00 h", 0);
            faultIs("a0x hyz", 2);
            faultIs("a00 hx", 5);
        });
        s.hold(TERMS, "(a letter, a figure that is none such: its place", () -> {
            faultIs("A00", 0);
            faultIs("0", 0);
            faultIs("axy", 1);
            faultIs("a0y", 2);
            faultIs("a00 g00", 4);
            faultIs("a00 H00", 4);
            faultIs("a00 000", 4);
            faultIs("a00 h00 hh0", 9);
            faultIs("a00 h00 h0h", 10);
            faultIs("\u0080", 0);
            faultIs("a00 \u00e8", 4);
            faultIs("a00 h\u00b0", 5);
        });
        s.hold(TERMS, "a ninth HOUSE: its letter", () -> {
            faultIs(FORGES + " h00", 36);
            faultIs(FORGES + "h00", 35);
            faultIs(FORGES + "   h", 38);
            faultIs(FORGES + " x", 36);
            faultIs(FORGES + "    ", NONE);
        });
        s.hold(TERMS, "the TEXT's size, if its end comes too early, or there are blanks alone)", () -> {
            faultIs("", 0);
            faultIs(" ", 1);
            faultIs(" ".repeat(80), 80);
            faultIs("a", 1);
            faultIs("a0", 2);
            faultIs("  a0", 4);
            faultIs("a00 h", 5);
            faultIs("a00 h0", 6);
            faultIs("a00" + " ".repeat(75) + "h0", 80);
        });
    }

    /** LOUD 0 .. 9 at THE ALTAR, and the SOUND of each. */
    private void soundsAre(char letter, int... want) {
        for (int loud = 0; loud <= 9; loud++) {
            NoiseTithe x = street("a00 " + letter + loud + "0");
            told("SOUND of " + letter + " at LOUD " + loud, x, x.house(0, 3), 1, want[loud]);
        }
    }

    private void kinds() {
        s.hold(TERMS, "SOUND of a HOUSE is LOUD (FORGE: twice; MUFFLED: the half, cut; MUTE: 0).", () -> {
            soundsAre('h', 0, 1, 2, 3, 4, 5, 6, 7, 8, 9);
            soundsAre('b', 0, 1, 2, 3, 4, 5, 6, 7, 8, 9);
            soundsAre('c', 0, 1, 2, 3, 4, 5, 6, 7, 8, 9);
        });
        s.hold(TERMS, "1 FORGE (f, 102; a HOUSE: twice as loud)", () ->
                soundsAre('f', 0, 2, 4, 6, 8, 10, 12, 14, 16, 18));
        s.hold(TERMS, "2 MUFFLED (m, 109; a HOUSE: the half, cut, of its sound goes out)", () ->
                soundsAre('m', 0, 0, 1, 1, 2, 2, 3, 3, 4, 4));
        s.hold(TERMS, "4 MUTE (u, 117; a MUFFLED: makes none)", () -> {
            soundsAre('u', 0, 0, 0, 0, 0, 0, 0, 0, 0, 0);
            due("count(2): a MUTE one is a MUFFLED one", street("a00 u00").count(2), 1);
        });
        s.hold(TERMS, "3 BELLS (b, 98; a HOUSE: exempt)", () -> {
            NoiseTithe x = behindHours("a00 b90 h90", 40, 1);
            told("BELLS, 360 made", x, x.tithe(0), 1, 0);
            x.debt(0, 1, 99);
            told("BELLS in debt", x, x.tithe(0), 1, 0);
            due("count(4)", x.count(4), 1);
        });
    }

    private void choirs() {
        s.hold(TERMS, "5 CHOIR (c, 99; a BELLS: exempt, as long as it owes nothing to another HOUSE)", () -> {
            NoiseTithe x = behindHours("a00 c90 h90", 40, 1);
            told("owes nothing", x, x.tithe(0), 1, 0);
            due("count(4): exempt", x.count(4), 1);
            x.debt(1, 0, 99);
            told("is owed", x, x.tithe(0), 1, 0);
            x.debt(0, 1, 1);
            told("owes 1", x, x.tithe(0), 1, 36);
            due("count(4): not exempt", x.count(4), 0);
            due("count(3): BELLS still", x.count(3), 1);
            x.net();
            told("netted", x, x.tithe(0), 1, 0);
            NoiseTithe eight = behindHours("a70 h00 h00 h00 h00 h00 h00 h00 c90", 40, 128);
            told("the last one of 8, owes nothing", eight, eight.tithe(7), 1, 0);
            eight.debt(7, 0, 1);
            told("the last one of 8, owes the first one 1", eight, eight.tithe(7), 1, 36);
        });
    }

    private void ripples() {
        s.hold(TERMS, "SOUND less its WALL less how far its place is from THE ALTAR's (0 at least)", () -> {
            NoiseTithe x = street("a50 h90 h94 h93 f99 h95");
            int[] want = {4, 1, 3, 7, 3};
            for (int i = 0; i < 5; i++) {
                told("RIPPLE of " + i, x, x.house(i, 4), 1, want[i]);
            }
            x.wall(1, 5);
            told("1 less than 1", x, x.house(1, 4), 1, 0);
            x.wall(1, 6);
            told("2 less than 1", x, x.house(1, 4), 1, 0);
            x.wall(1, 99);
            told("98 less than 1", x, x.house(1, 4), 1, 0);
            x.altar(9);
            told("far away: 9 - 9", x, x.house(0, 4), 1, 0);
            NoiseTithe still = street("a90 u00");
            told("nothing at a distance", still, still.house(0, 4), 1, 0);
        });
    }

    private void hours() {
        s.hold(TERMS, "then it LEAKS (what there is of it, LEAK at most)", () -> {
            due("LEAK 5 of 0", street("a05 h90").hour(0), 0);
            due("LEAK 5 of 4", street("a05 h40").hour(1), 0);
            due("LEAK 5 of 5", street("a05 h50").hour(1), 0);
            due("LEAK 5 of 6", street("a05 h60").hour(1), 1);
            due("LEAK 0 of 6", street("a00 h60").hour(1), 6);
        });
        s.hold(TERMS, "THE JAR holds 60: what would rise above that runs over, and is lost.", () -> {
            NoiseTithe x = behindHours("a01 f90 h40", 4, 1);
            told("17, 34, 51, 60 - 1", x, x.jar(), 59, 9);
            told("59 and 3", x, x.hour(2), 59, 2);
            told("59 and 0: what is lost does not come again", x, x.hour(0), 58, 0);
            told("all that ran over", x, x.jar(), 58, 11);
        });
    }

    private void tithes() {
        s.hold(TERMS, "a tenth, cut, of all RIPPLES that it made", () -> {
            for (int made = 8; made <= 11; made++) {
                NoiseTithe x = behindHours("a00 h10", made, 1);
                told("a tenth of " + made, x, x.tithe(0), 1, made < 10 ? 0 : 1);
            }
        });
        s.hold(TERMS, "those that ran over, too", () -> {
            NoiseTithe x = behindHours(FORGES, 40, 255);
            told("a tenth of 40 times 14", x, x.tithe(0), 1, 56);
            told("a tenth of 40 times 18", x, x.tithe(4), 1, 72);
        });
        s.hold(TERMS, "0, if it is exempt", () -> {
            NoiseTithe x = behindHours("a00 b90", 40, 1);
            told("BELLS", x, x.tithe(0), 1, 0);
            x.pay(0, 5);
            told("BELLS that PAID 5", x, x.tithe(0), 1, -5);
        });
        s.hold(TERMS, "less what it PAID ahead (perhaps below 0)", () -> {
            NoiseTithe x = behindHours("a00 h10", 20, 1);
            x.pay(0, 2);
            told("2 less 2", x, x.tithe(0), 1, 0);
            x.pay(0, 1);
            told("2 less 3", x, x.tithe(0), 1, -1);
        });
    }

    private void sets() {
        s.hold(TERMS, "A set FITS a rise v, if its HOUSES that are no MUTE have v as RIPPLES together, "
                + "and no MUTE is in it.", () -> {
            NoiseTithe x = street("a00 h50 u90 h01");
            told("fits(5): the first, with or without the last", x, x.fits(5), 2, 1);
            told("fits(0): none, or the last", x, x.fits(0), 2, 0);
            told("sure(5): the MUTE in none", x, x.sure(5), 1, 2);
            NoiseTithe mutes = street("a00 u90 u90 u90 u90 u90 u90 u90 u90");
            told("fits(0): none, of 8 MUTE ones", mutes, mutes.fits(0), 1, 0);
        });
        s.hold(TERMS, "DEBTS: of each HOUSE to each other one 0 .. 99 (0 at first).", () -> {
            NoiseTithe x = street(FORGES);
            for (int i = 0; i < 8; i++) {
                for (int j = 0; j < 8; j++) {
                    due("debt(" + i + ", " + j + ", 99)", x.debt(i, j, 99), i == j ? BAD : 0);
                }
            }
            refusedFor(BAD, "debt(0, 1, v)", () -> street(FORGES), (y, v) -> y.debt(0, 1, v), -1, 100);
        });
    }

    private void debtsAndLots() {
        s.hold(TERMS, "LOTS: a number comes from the one ahead by 48271 times it modulo 2147483647, "
                + "the first from a seed (1 .. 2147483646).", () -> {
            // each product is beyond what an int holds until its modulo is taken
            int[] lots = new int[60];
            long lot = 2147483646;
            for (int k = 0; k < lots.length; k++) {
                lot = 48271 * lot % 2147483647;
                lots[k] = (int) (lot % 12);
            }
            for (int loud = 1; loud <= 9; loud++) {
                int all = 0;
                for (int modulo : lots) {
                    all += modulo < loud ? 1 : 0;
                }
                NoiseTithe x = street("a00 h" + loud + "0");
                due("60 LOTS of the greatest seed below LOUD " + loud, x.crickets(60, 2147483646), all);
            }
        });
    }

    private void calls() {
        s.hold("What it is", "An object is used for at most 512 calls after it has been made", () -> {
            NoiseTithe x = street("a00 h10"); // 9 calls
            for (int k = 0; k < 12; k++) {
                for (int hour = 0; hour < 40; hour++) {
                    due("hour(1)", x.hour(1), hour + 1);
                }
                due("undo(0)", x.undo(0), 40);
            }
            for (int hour = 0; hour < 10; hour++) {
                due("hour(1)", x.hour(1), hour + 1);
            }
            due("jar(), the 512th call", x.jar(), 10);
        });
    }
}
