/** Promises 38 to 43: DEBTS and crickets, sentence by sentence. */
final class BoundsOfDebts extends Bounds {
    BoundsOfDebts(Sentences sentences) {
        super(sentences);
    }

    void hold() {
        debt();
        balance();
        payments();
        net();
        crickets();
        cricketsRefused();
        sings();
    }

    private static NoiseTithe forges() {
        return street(FORGES);
    }

    /** HOUSE 0 owes all others, and is owed by them, as much as told. */
    private static NoiseTithe owing(int owes, int isOwed) {
        NoiseTithe x = forges();
        for (int j = 1; j < 8; j++) {
            x.debt(0, j, owes);
            x.debt(j, 0, isOwed);
        }
        return x;
    }

    private void debt() {
        s.promise(38, "What a HOUSE owes another one is v (0 .. 99): what it was.", () -> {
            NoiseTithe x = forges();
            due("debt(0, 7, 99)", x.debt(0, 7, 99), 0);
            due("debt(7, 0, 1): the other way", x.debt(7, 0, 1), 0);
            due("debt(0, 7, 0)", x.debt(0, 7, 0), 99);
            due("debt(0, 7, 0) again", x.debt(0, 7, 0), 0);
            due("debt(7, 0, 0)", x.debt(7, 0, 0), 1);
        });
        s.promise(38, "BAD: also to itself.", () -> {
            refusedFor(BAD, "debt(i, i, 1)", BoundsOfDebts::forges, (x, i) -> x.debt(i, i, 1), 0, 3, 7);
            refusedFor(BAD, "debt(i, i, 0)", BoundsOfDebts::forges, (x, i) -> x.debt(i, i, 0), 0, 7);
            badOutside("debt(i, 1, 1)", BoundsOfDebts::forges, 0, 7, (x, i) -> x.debt(i, 1, 1));
            badOutside("debt(0, j, 1)", BoundsOfDebts::forges, 0, 7, (x, j) -> x.debt(0, j, 1));
            badOutside("debt(0, 1, v)", BoundsOfDebts::forges, 0, 99, (x, v) -> x.debt(0, 1, v));
            refusedFor(BAD, "debt(i, 1, 1) without HOUSES", Bounds::fresh, (x, i) -> x.debt(i, 1, 1), 0);
            refusedFor(BAD, "debt(0, j, 1) of one HOUSE", () -> street("a00 h11"), (x, j) -> x.debt(0, j, 1), 0, 1);
        });
    }

    private void balance() {
        s.promise(39, "What all others owe a HOUSE less what it owes them, told by asked(): 1.", () -> {
            NoiseTithe none = owing(0, 0);
            told("nothing", none, none.balance(0), 1, 0);
            NoiseTithe owed = owing(0, 99);
            told("all that can be owed", owed, owed.balance(0), 1, 693);
            told("of the last HOUSE", owed, owed.balance(7), 1, -99);
            NoiseTithe owes = owing(99, 0);
            told("all that it can owe", owes, owes.balance(0), 1, -693);
            told("of the last HOUSE", owes, owes.balance(7), 1, 99);
            NoiseTithe both = owing(99, 99);
            told("both alike", both, both.balance(0), 1, 0);
        });
        s.promise(39, "BAD.", () -> {
            badOutside("balance(i)", BoundsOfDebts::forges, 0, 7, (x, i) -> x.balance(i));
            refusedFor(BAD, "balance(i) without HOUSES", Bounds::fresh, (x, i) -> x.balance(i), 0);
        });
    }

    private void payments() {
        s.promise(40, "The fewest payments by which all balances become 0", () -> {
            due("without HOUSES", fresh().payments(), 0);
            due("of a STREET without HOUSES", street("a99").payments(), 0);
            due("of one HOUSE", street("a00 h11").payments(), 0);
            due("without DEBTS", forges().payments(), 0);
            due("all balances are 0", owing(99, 99).payments(), 0);
            due("one HOUSE owes 7", owing(99, 0).payments(), 7);
            due("7 HOUSES owe one", owing(0, 1).payments(), 7);
            NoiseTithe pairs = forges();
            for (int i = 0; i < 8; i += 2) {
                pairs.debt(i, i + 1, 99);
            }
            due("4 pairs", pairs.payments(), 4);
            pairs.debt(1, 2, 99);
            due("two of the pairs become one", pairs.payments(), 3);
        });
        s.promise(40, "(of one HOUSE to another one, of any sum each)", () -> {
            NoiseTithe x = forges();
            for (int i = 0; i < 7; i++) {
                x.debt(i, 7, 99);
                x.debt(7, i, i == 0 ? 0 : 99);
            }
            due("99 by one", x.payments(), 1);
            x.debt(1, 2, 99);
            x.debt(2, 7, 0);
            due("99 by each of two to one", x.payments(), 2);
        });
    }

    private void net() {
        s.promise(41, "each pair's DEBTS are taken off each other, so that one of both is 0", () -> {
            NoiseTithe x = forges();
            x.debt(0, 7, 99);
            x.debt(7, 0, 98);
            x.debt(6, 7, 5);
            x.debt(7, 6, 5);
            x.debt(1, 2, 4);
            due("net()", x.net(), 196 + 10);
            due("what HOUSE 0 owes still", x.debt(0, 7, 0), 1);
            due("what the last HOUSE owes", x.debt(7, 0, 0), 0);
            due("both alike, one way", x.debt(6, 7, 0), 0);
            due("both alike, the other way", x.debt(7, 6, 0), 0);
            due("what is owed one way alone", x.debt(1, 2, 0), 4);
        });
        s.promise(41, "by how much all DEBTS together became less", () -> {
            due("without HOUSES", fresh().net(), 0);
            due("without DEBTS", forges().net(), 0);
            due("one way alone", owing(99, 0).net(), 0);
            NoiseTithe x = forges();
            for (int i = 0; i < 8; i++) {
                for (int j = 0; j < 8; j++) {
                    x.debt(i, j, 99);
                }
            }
            due("all that can be owed", x.net(), 56 * 99);
            due("net() again", x.net(), 0);
        });
    }

    private void cricketsAre(String text, int n, int seed, int all, int night) {
        NoiseTithe x = street(text);
        told("crickets(" + n + ", " + seed + ") of " + text, x, x.crickets(n, seed), all, night);
    }

    private void crickets() {
        // LOTS of 1: 48271 182605794 1291394886 1914720637 2078669041, modulo 12: 7 6 6 1 1
        s.promise(42, "it modulo 12 below LOUD", () -> {
            cricketsAre("a00 h70", 1, 1, 0, 0);
            cricketsAre("a00 h80", 1, 1, 1, 0);
            cricketsAre("a00 h00", 60, 1, 0, 0);
            cricketsAre("a00 m80", 1, 1, 1, 0);
            cricketsAre("a00 f70", 1, 1, 0, 0);
        });
        s.promise(42, "for each HOUSE but MUTE ones by number a number", () -> {
            cricketsAre("a00 h80 u90 h60", 1, 1, 1, 0);
            cricketsAre("a00 h80 u90 h70", 1, 1, 2, 0);
            cricketsAre("a00 u90", 60, 1, 0, 0);
            cricketsAre("a00 u90 u90 u90 u90 u90 u90 u90 h80", 1, 1, 1, 0);
        });
        s.promise(42, "Crickets by LOTS of a seed for n (1 .. 60) nights", () -> {
            cricketsAre("a00 h80", 1, 1, 1, 0);
            cricketsAre(Check.ALL_KINDS, 60, 5, 261, 30);
            // the LOT of the greatest seed is 2147483647 - 48271, modulo 12: 0
            cricketsAre("a00 h10", 1, 2147483646, 1, 0);
            cricketsAre("a00 h00", 60, 2147483646, 0, 0);
        });
        s.promise(42, "how many in all; the night of most (the first, from 0) by asked()", () -> {
            cricketsAre("a00 h70", 2, 1, 1, 1);
            cricketsAre("a00 h70", 5, 1, 4, 1);
            cricketsAre("a00 h20", 5, 1, 2, 3);
            cricketsAre("a00 h80", 5, 1, 5, 0);
        });
    }

    private void cricketsRefused() {
        s.promise(42, "BAD", () -> {
            badOutside("crickets(n, 1)", BoundsOfDebts::forges, 1, 60, (x, n) -> x.crickets(n, 1));
            badOutside("crickets(1, seed)", BoundsOfDebts::forges, 1, 2147483646, (x, seed) -> x.crickets(1, seed));
            taken("crickets(n, 1)", BoundsOfDebts::forges, (x, n) -> x.crickets(n, 1), 1, 60);
            taken("crickets(1, seed)", BoundsOfDebts::forges, (x, seed) -> x.crickets(1, seed), 1, 2147483646);
        });
        s.promise(42, "STATE: no HOUSES.", () -> {
            refusedFor(STATE, "crickets(n, 1) of a new object", Bounds::fresh, (x, n) -> x.crickets(n, 1), 1, 60);
            refusedFor(STATE, "crickets(n, 1) of a STREET without HOUSES", () -> street("a99"),
                    (x, n) -> x.crickets(n, 1), 1);
            badOutside("crickets(n, 1): BAD ahead of STATE", Bounds::fresh, 1, 60, (x, n) -> x.crickets(n, 1));
            badOutside("crickets(1, seed): BAD ahead of STATE", Bounds::fresh, 1, 2147483646,
                    (x, seed) -> x.crickets(1, seed));
        });
    }

    private void singsIs(String text, long upper, long lower) {
        NoiseTithe x = street(text);
        told("sings() of " + text, x, x.sings(), 1, 0);
        due("upper() of " + text, x.upper(), upper);
        due("lower() of " + text, x.lower(), lower);
    }

    private void sings() {
        s.promise(43, "odds that at least one cricket sings in a night, told by upper(), lower(): 1.", () -> {
            singsIs("a00 u90", 0, 1);
            singsIs(STILL, 0, 1);
            singsIs("a00 h10", 1, 12);
            singsIs("a00 h90", 3, 4);
            singsIs("a00 f90 u10", 3, 4);
            singsIs(FORGES, 65535, 65536);
            singsIs("a00 h10 h10 h10 h10 h10 h10 h10 h10", 429981696L - 214358881L, 429981696L);
        });
        s.promise(43, "STATE: no HOUSES.", () -> {
            refusedFor(STATE, "sings() of a new object", Bounds::fresh, (x, v) -> x.sings(), 0);
            refusedFor(STATE, "sings() of a STREET without HOUSES", () -> street("a99"), (x, v) -> x.sings(), 0);
        });
    }
}
