/** Promises 38 to 43: DEBTS and crickets. */
public final class DebtsTest {
    private static final Check CHECK = new Check();

    public static void main(String[] args) {
        debt();
        balance();
        payments();
        net();
        crickets();
        cricketsRefused();
        sings();
        CHECK.end();
    }

    private static void debt() {
        NoiseTithe x = Check.street("a00 h11 h11 c11");
        CHECK.due("debt(0, 1, 99)", x.debt(0, 1, 99), 0);
        CHECK.due("debt(1, 0, 5)", x.debt(1, 0, 5), 0);
        CHECK.due("debt(0, 2, 4)", x.debt(0, 2, 4), 0);
        CHECK.due("debt(0, 1, 0)", x.debt(0, 1, 0), 99);
        CHECK.due("debt(0, 1, 7)", x.debt(0, 1, 7), 0);
        CHECK.due("debt(1, 0, 6)", x.debt(1, 0, 6), 5);
        CHECK.due("debt(0, 2, 4) again", x.debt(0, 2, 4), 4);
        CHECK.due("asked() behind debt", x.asked(), 0);
        CHECK.refused("debt(0, 0, 1)", x, () -> x.debt(0, 0, 1), NoiseTithe.BAD);
        CHECK.refused("debt(-1, 0, 1)", x, () -> x.debt(-1, 0, 1), NoiseTithe.BAD);
        CHECK.refused("debt(3, 0, 1)", x, () -> x.debt(3, 0, 1), NoiseTithe.BAD);
        CHECK.refused("debt(0, -1, 1)", x, () -> x.debt(0, -1, 1), NoiseTithe.BAD);
        CHECK.refused("debt(0, 3, 1)", x, () -> x.debt(0, 3, 1), NoiseTithe.BAD);
        CHECK.refused("debt(0, 1, -1)", x, () -> x.debt(0, 1, -1), NoiseTithe.BAD);
        CHECK.refused("debt(0, 1, 100)", x, () -> x.debt(0, 1, 100), NoiseTithe.BAD);
    }

    private static void balance() {
        NoiseTithe x = Check.street("a00 h11 h11 c11");
        CHECK.told("balance(0) at first", x, x.balance(0), 1, 0);
        x.debt(0, 1, 10);
        x.debt(0, 2, 4);
        x.debt(1, 0, 3);
        x.debt(2, 1, 9);
        CHECK.told("balance(0)", x, x.balance(0), 1, -11);
        CHECK.told("balance(1)", x, x.balance(1), 1, 16);
        CHECK.told("balance(2)", x, x.balance(2), 1, -5);
        CHECK.refused("balance(-1)", x, () -> x.balance(-1), NoiseTithe.BAD);
        CHECK.refused("balance(3)", x, () -> x.balance(3), NoiseTithe.BAD);
    }

    /** HOUSES that owe the last one or are owed by it, so that their balances are as told. */
    private static NoiseTithe balances(int... balances) {
        NoiseTithe x = Check.street(Check.ALL_KINDS);
        for (int i = 0; i < balances.length; i++) {
            if (balances[i] < 0) {
                x.debt(i, 7, -balances[i]);
            } else {
                x.debt(7, i, balances[i]);
            }
        }
        return x;
    }

    private static void payments() {
        CHECK.due("payments() without HOUSES", new NoiseTithe().payments(), 0);
        CHECK.due("payments() without DEBTS", balances().payments(), 0);
        CHECK.due("payments() of -5 0 0 0 0 0 0 5", balances(-5).payments(), 1);
        CHECK.due("payments() of -5 5", balances(-5, 5).payments(), 1);
        CHECK.due("payments() of 1 1 -2", balances(1, 1, -2).payments(), 2);
        CHECK.due("payments() of 0 1 -1 1 -1", balances(0, 1, -1, 1, -1).payments(), 2);
        CHECK.due("payments() of -5 -5 10", balances(-5, -5, 10).payments(), 2);
        CHECK.due("payments() of -1 -2 3 -4 4", balances(-1, -2, 3, -4, 4).payments(), 3);
        CHECK.due("payments() of 3 3 -2 -2 -2", balances(3, 3, -2, -2, -2).payments(), 4);
        CHECK.due("payments() of 7 -3 -4 0 2 -2 9 -9", balances(7, -3, -4, 0, 2, -2, 9).payments(), 4);
        CHECK.due("payments() of 5 -5 6 -6 8 -8 9 -9", balances(5, -5, 6, -6, 8, -8, 9).payments(), 4);
        CHECK.due("payments() of 1 2 4 8 16 32 64 -127",
                balances(1, 2, 4, 8, 16, 32, 64).payments(), 7);
        CHECK.due("payments() of 5 3 -8 2 2 2 -6", balances(5, 3, -8, 2, 2, 2, -6).payments(), 5);
        NoiseTithe round = Check.street("a00 h11 h11 h11");
        round.debt(0, 1, 5);
        round.debt(1, 2, 5);
        round.debt(2, 0, 5);
        long digest = round.digest();
        CHECK.told("payments() of a round", round, round.payments(), 0, 0);
        CHECK.due("digest() behind payments()", round.digest(), digest);
    }

    private static void net() {
        CHECK.due("net() without HOUSES", new NoiseTithe().net(), 0);
        NoiseTithe x = Check.street(Check.ALL_KINDS);
        CHECK.due("net() without DEBTS", x.net(), 0);
        x.debt(0, 1, 10);
        x.debt(1, 0, 4);
        x.debt(5, 7, 6);
        x.debt(7, 5, 6);
        x.debt(6, 2, 3);
        x.debt(2, 6, 90);
        x.debt(3, 4, 8);
        CHECK.told("net()", x, x.net(), 8 + 12 + 6, 0);
        CHECK.due("debt(0, 1) netted", x.debt(0, 1, 6), 6);
        CHECK.due("debt(1, 0) netted", x.debt(1, 0, 0), 0);
        CHECK.due("debt(5, 7) netted", x.debt(5, 7, 0), 0);
        CHECK.due("debt(7, 5) netted", x.debt(7, 5, 0), 0);
        CHECK.due("debt(6, 2) netted", x.debt(6, 2, 0), 0);
        CHECK.due("debt(2, 6) netted", x.debt(2, 6, 87), 87);
        CHECK.due("debt(3, 4) as it was", x.debt(3, 4, 8), 8);
        CHECK.due("net() again", x.net(), 0);
    }

    private static void crickets() {
        NoiseTithe x = Check.street(Check.ALL_KINDS);
        CHECK.told("crickets(5, 77)", x, x.crickets(5, 77), 23, 2);
        CHECK.told("crickets(60, 5)", x, x.crickets(60, 5), 261, 30);
        // LOTS of 1: 48271 182605794 1291394886 1914720637 2078669041, modulo 12: 7 6 6 1 1
        NoiseTithe one = Check.street("a00 h70");
        CHECK.told("crickets(1, 1): 7 is not below 7", one, one.crickets(1, 1), 0, 0);
        CHECK.told("crickets(2, 1)", one, one.crickets(2, 1), 1, 1);
        CHECK.told("crickets(5, 1): the first night of most", one, one.crickets(5, 1), 4, 1);
        NoiseTithe two = Check.street("a00 f60 u90 h70");
        CHECK.told("crickets(2, 1): a LOT for each but MUTE ones", two, two.crickets(2, 1), 2, 0);
        NoiseTithe eight = Check.street("a00 m80");
        CHECK.told("crickets(1, 1): LOUD, not SOUND", eight, eight.crickets(1, 1), 1, 0);
        NoiseTithe mute = Check.street("a00 u90");
        CHECK.told("crickets(60, 2147483646) of a MUTE", mute, mute.crickets(60, 2147483646), 0, 0);
        // the LOT of 2147483646 is 2147483647 - 48271, modulo 12: 0
        CHECK.told("crickets(1, 2147483646)", one, one.crickets(1, 2147483646), 1, 0);
        NoiseTithe quiet = Check.street("a00 h00 h00");
        CHECK.told("crickets(60, 7) of LOUD 0", quiet, quiet.crickets(60, 7), 0, 0);
    }

    private static void cricketsRefused() {
        NoiseTithe x = Check.street("a00 h70");
        CHECK.refused("crickets(0, 1)", x, () -> x.crickets(0, 1), NoiseTithe.BAD);
        CHECK.refused("crickets(61, 1)", x, () -> x.crickets(61, 1), NoiseTithe.BAD);
        CHECK.refused("crickets(1, 0)", x, () -> x.crickets(1, 0), NoiseTithe.BAD);
        CHECK.refused("crickets(1, -5)", x, () -> x.crickets(1, -5), NoiseTithe.BAD);
        CHECK.refused("crickets(1, max)", x, () -> x.crickets(1, Integer.MAX_VALUE), NoiseTithe.BAD);
        NoiseTithe none = new NoiseTithe();
        CHECK.refused("crickets(1, 1) without HOUSES", none, () -> none.crickets(1, 1), NoiseTithe.STATE);
        CHECK.refused("crickets(0, 1) without HOUSES", none, () -> none.crickets(0, 1), NoiseTithe.BAD);
        CHECK.refused("crickets(1, 0) without HOUSES", none, () -> none.crickets(1, 0), NoiseTithe.BAD);
    }

    private static void singsIs(String street, long upper, long lower) {
        NoiseTithe x = Check.street(street);
        CHECK.told("sings() of " + street, x, x.sings(), 1, 0);
        CHECK.due("upper() of " + street, x.upper(), upper);
        CHECK.due("lower() of " + street, x.lower(), lower);
    }

    private static void sings() {
        singsIs(Check.ALL_KINDS, 6907, 6912);
        singsIs("a00 h60", 1, 2);
        singsIs("a00 f30 m90", 13, 16);
        singsIs("a00 u90", 0, 1);
        singsIs("a00 u90 h00", 0, 1);
        singsIs("a00 h50 u10 c70", 109, 144);
        singsIs("a00 h10 h10 h10 h10 h10 h10 h10 h10", 429981696L - 214358881L, 429981696L);
        NoiseTithe none = new NoiseTithe();
        CHECK.refused("sings() without HOUSES", none, none::sings, NoiseTithe.STATE);
    }
}
