import java.util.Map;
import java.util.function.Supplier;

/** The boundary cases of promises 1 to 4: a new object and the calls that change it. */
public final class ChangesEdgesTest {
    private static final int[] BAD_SECRETS = {-1, 8, Tables.LEAST, Tables.GREATEST};
    private static final int[] BAD_K_OR_L = {0, 9, -1, Tables.LEAST, Tables.GREATEST};
    private static final int[] BAD_S = {-1, 17, Tables.LEAST, Tables.GREATEST};

    public static void main(String[] args) {
        newObjectHasNoRows();
        newObjectHasK2();
        newObjectHasL1();
        newObjectHasS0();
        rowTakesBits0To3();
        rowTakesBits4To7();
        rowTakesBits8To11();
        rowTakesNoOtherBits();
        rowTakesAnyValues();
        rowRefusesASecret();
        rowRefusesWhenFull();
        rowTestsTheSecretFirst();
        rowAnswersItsNumberFrom0();
        dropRefusesWhenThereIsNone();
        dropAnswersHowManyAreLeft();
        dropTakesOutNothingElse();
        demandTakesEachEnd();
        demandAnswersForAllAround();
        demandRefuses();
        demandSetsAllThree();
        Check.finish();
    }

    private static void newObjectHasNoRows() {
        PrivacyLattice x = new PrivacyLattice();
        for (int r : new int[] {Tables.LEAST, -1, 0, 1, 15, 16, Tables.GREATEST}) {
            Check.due("1: no rows: lookAlike(0, " + r + ")", x.lookAlike(0, r), PrivacyLattice.BAD_ROW);
        }
        Check.due("1: no rows: groups(0)", x.groups(0), 0);
        Check.due("1: no rows: drop()", x.drop(), PrivacyLattice.BAD_ROW);
        Check.due("1: no rows: the first row", x.row(0, 0), 0);
        Check.due("1: no rows: another object", new PrivacyLattice().groups(0), 0);
    }

    private static void newObjectHasK2() {
        PrivacyLattice x = new PrivacyLattice();
        x.row(0, 0);
        Check.due("1: K = 2: one row is too few", x.leftOut(0), 1);
        x.row(0, 1);
        Check.due("1: K = 2: two rows are enough", x.leftOut(0), 0);
    }

    private static void newObjectHasL1() {
        PrivacyLattice x = new PrivacyLattice();
        x.row(0, 5);
        x.row(0, 5);
        Check.due("1: L = 1: one secret is enough", x.leftOut(0), 0);
    }

    private static void newObjectHasS0() {
        PrivacyLattice x = new PrivacyLattice();
        Check.due("1: S = 0: none left out", x.good(0), true);
        x.row(0, 0);
        Check.due("1: S = 0: one left out", x.good(0), false);
    }

    private static void rowTakesBits0To3() {
        PrivacyLattice x = Tables.withRows(0x000, 0x00F, 0x00F, 0x001, 0x008, 0x010);
        int shown = Tables.setting(0, 4, 4);
        Check.due("2: values & 15: 0 and 16", x.lookAlike(shown, 0), 2);
        Check.due("2: values & 15: 15", x.lookAlike(shown, 1), 2);
        Check.due("2: values & 15: 1", x.lookAlike(shown, 3), 1);
        Check.due("2: values & 15: 8", x.lookAlike(shown, 4), 1);
    }

    private static void rowTakesBits4To7() {
        PrivacyLattice x = Tables.withRows(0x000, 0x0F0, 0x0FF, 0x010, 0x080, 0x00F, 0x100);
        int shown = Tables.setting(4, 0, 4);
        Check.due("2: (values >> 4) & 15: 0, 15 and 256", x.lookAlike(shown, 0), 3);
        Check.due("2: (values >> 4) & 15: 240 and 255", x.lookAlike(shown, 1), 2);
        Check.due("2: (values >> 4) & 15: 16", x.lookAlike(shown, 3), 1);
        Check.due("2: (values >> 4) & 15: 128", x.lookAlike(shown, 4), 1);
    }

    private static void rowTakesBits8To11() {
        PrivacyLattice x = Tables.withRows(0x000, 0xF00, 0xFFF, 0x100, 0x800, 0x0FF, 0x1000);
        int shown = Tables.setting(4, 4, 0);
        Check.due("2: (values >> 8) & 15: 0, 255 and 4096", x.lookAlike(shown, 0), 3);
        Check.due("2: (values >> 8) & 15: 3840 and 4095", x.lookAlike(shown, 1), 2);
        Check.due("2: (values >> 8) & 15: 256", x.lookAlike(shown, 3), 1);
        Check.due("2: (values >> 8) & 15: 2048", x.lookAlike(shown, 4), 1);
    }

    private static void rowTakesNoOtherBits() {
        PrivacyLattice zeros = Tables.withRows(0, 0x1000, -0x1000, Tables.LEAST, 0x7FFFF000, 0x40000000);
        Check.due("2: all three attributes are 0", zeros.groups(0), 1);
        PrivacyLattice fifteens = Tables.withRows(0xFFF, -1, Tables.GREATEST, 0x1FFF, Tables.LEAST + 0xFFF);
        Check.due("2: all three attributes are 15", fifteens.groups(0), 1);
        PrivacyLattice negative = Tables.withRows(-2, 0xFFE, -16, 0xFF0, -17, 0xFEF, -256, 0xF00, -257, 0xEFF);
        Check.due("2: negative values, five pairs", negative.groups(0), 5);
        for (int r = 0; r < 10; r++) {
            Check.due("2: negative values, row " + r, negative.lookAlike(0, r), 2);
        }
    }

    private static void rowTakesAnyValues() {
        PrivacyLattice x = new PrivacyLattice();
        int number = 0;
        for (int values : new int[] {Tables.LEAST, -4096, -1, 0, 4095, 4096, Tables.GREATEST}) {
            for (int secret : new int[] {0, 7}) {
                Check.due("2: row(" + values + ", " + secret + ")", x.row(values, secret), number);
                number++;
            }
        }
    }

    private static void rowRefusesASecret() {
        for (Map.Entry<String, Supplier<PrivacyLattice>> state : Tables.states().entrySet()) {
            for (int secret : BAD_SECRETS) {
                for (int values : new int[] {Tables.LEAST, 0, Tables.GREATEST}) {
                    Probe.changesNothing("2: " + state.getKey() + ": row(" + values + ", " + secret + ")",
                            state.getValue(), x -> x.row(values, secret), PrivacyLattice.BAD_VALUE);
                }
            }
        }
    }

    private static void rowRefusesWhenFull() {
        for (int values : new int[] {Tables.LEAST, -1, 0, 4095, Tables.GREATEST}) {
            for (int secret : new int[] {0, 7}) {
                Probe.changesNothing("2: sixteen rows: row(" + values + ", " + secret + ")",
                        Tables::sixteenMixed, x -> x.row(values, secret), PrivacyLattice.FULL);
            }
        }
        PrivacyLattice x = Tables.sixteenMixed();
        Check.due("2: sixteen: FULL", x.row(0, 0), PrivacyLattice.FULL);
        Check.due("2: sixteen: one out", x.drop(), 15);
        Check.due("2: fifteen: room for one", x.row(0, 0), 15);
        Check.due("2: sixteen: FULL again", x.row(0, 0), PrivacyLattice.FULL);
    }

    private static void rowTestsTheSecretFirst() {
        PrivacyLattice x = Tables.sixteenAlike();
        for (int secret : BAD_SECRETS) {
            Check.due("2: full, and secret " + secret, x.row(0, secret), PrivacyLattice.BAD_VALUE);
        }
        for (int secret : new int[] {0, 7}) {
            Check.due("2: full, but secret " + secret, x.row(0, secret), PrivacyLattice.FULL);
        }
    }

    private static void rowAnswersItsNumberFrom0() {
        PrivacyLattice x = new PrivacyLattice();
        for (int i = 0; i < 16; i++) {
            for (int secret : BAD_SECRETS) {
                Check.due("2: no number is used up", x.row(0, secret), PrivacyLattice.BAD_VALUE);
            }
            Check.due("2: number " + i, x.row(i, i % 8), i);
        }
    }

    private static void dropRefusesWhenThereIsNone() {
        Probe.changesNothing("3: new object: drop()", PrivacyLattice::new, x -> x.drop(), PrivacyLattice.BAD_ROW);
        Probe.changesNothing("3: all dropped: drop()", ChangesEdgesTest::allDropped, x -> x.drop(),
                PrivacyLattice.BAD_ROW);
        PrivacyLattice x = allDropped();
        for (int i = 0; i < 20; i++) {
            Check.due("3: again and again: drop()", x.drop(), PrivacyLattice.BAD_ROW);
        }
        Check.due("3: the next row's number", x.row(0, 0), 0);
        Check.due("3: the one row goes", x.drop(), 0);
        Check.due("3: none is left", x.drop(), PrivacyLattice.BAD_ROW);
    }

    private static PrivacyLattice allDropped() {
        PrivacyLattice x = Tables.sixteenMixed();
        for (int left = 15; left >= 0; left--) {
            Check.due("3: drop()", x.drop(), left);
        }
        return x;
    }

    private static void dropAnswersHowManyAreLeft() {
        PrivacyLattice x = Tables.sixteenApart(0);
        for (int left = 15; left >= 0; left--) {
            Check.due("3: from " + (left + 1), x.drop(), left);
            Check.due("3: the last row went", x.lookAlike(0, left), PrivacyLattice.BAD_ROW);
            Check.due("3: " + left + " rows", x.groups(0), left);
            if (left > 0) {
                Check.due("3: the row ahead of it stays", x.lookAlike(0, left - 1), 1);
            }
        }
    }

    /** K = 4, L = 3 and S = 5 outlast the last row and the drops that are refused. */
    private static void dropTakesOutNothingElse() {
        PrivacyLattice x = allDropped();
        Check.due("3: none is left", x.drop(), PrivacyLattice.BAD_ROW);
        x.row(0, 0);
        x.row(0, 1);
        x.row(0, 2);
        Check.due("3: K = 4: three rows", x.leftOut(0), 3);
        x.row(0, 2);
        Check.due("3: K = 4: four rows", x.leftOut(0), 0);
        x.drop();
        x.drop();
        x.row(0, 0);
        x.row(0, 1);
        Check.due("3: L = 3: two secrets", x.leftOut(0), 4);
        x.row(1, 0);
        Check.due("3: S = 5: five left out", x.good(0), true);
        x.row(2, 0);
        Check.due("3: S = 5: six left out", x.good(0), false);
    }

    private static void demandTakesEachEnd() {
        for (int k : new int[] {1, 8}) {
            for (int l : new int[] {1, 8}) {
                for (int s : new int[] {0, 16}) {
                    PrivacyLattice x = Tables.sixteenMixed();
                    Check.due("4: demand(" + k + ", " + l + ", " + s + ")", x.demand(k, l, s), 0);
                    // Seven secrets at most are in the table, and one group of sixteen rows at setting 124.
                    Check.due("4: leftOut(124)", x.leftOut(124), l == 8 ? 16 : 0);
                    Check.due("4: good(124)", x.good(124), l == 1 || s == 16);
                    Check.due("4: good(0)", x.good(0), k == 1 && l == 1 || s == 16);
                }
            }
        }
    }

    private static void demandAnswersForAllAround() {
        for (int k = -2; k <= 10; k++) {
            PrivacyLattice x = new PrivacyLattice();
            for (int l = -2; l <= 10; l++) {
                for (int s = -2; s <= 18; s++) {
                    boolean inside = 1 <= k && k <= 8 && 1 <= l && l <= 8 && 0 <= s && s <= 16;
                    Check.due("4: demand(" + k + ", " + l + ", " + s + ")", x.demand(k, l, s),
                            inside ? 0 : PrivacyLattice.BAD_VALUE);
                }
            }
        }
    }

    /** The numbers that are not refused differ from those of every state, so one that was set would show. */
    private static void demandRefuses() {
        for (Map.Entry<String, Supplier<PrivacyLattice>> state : Tables.states().entrySet()) {
            for (int bad : BAD_K_OR_L) {
                demandRefused(state, bad, 5, 7);
                demandRefused(state, 5, bad, 7);
                demandRefused(state, bad, bad, 7);
            }
            for (int bad : BAD_S) {
                demandRefused(state, 5, 5, bad);
                demandRefused(state, bad, bad, bad);
            }
            demandRefused(state, 8, 8, 17);
            demandRefused(state, 1, 1, -1);
            demandRefused(state, 8, 9, 16);
            demandRefused(state, 1, 0, 0);
            demandRefused(state, 9, 8, 16);
            demandRefused(state, 0, 1, 0);
        }
    }

    private static void demandRefused(Map.Entry<String, Supplier<PrivacyLattice>> state, int k, int l, int s) {
        Probe.changesNothing("4: " + state.getKey() + ": demand(" + k + ", " + l + ", " + s + ")",
                state.getValue(), x -> x.demand(k, l, s), PrivacyLattice.BAD_VALUE);
    }

    private static void demandSetsAllThree() {
        PrivacyLattice x = Tables.withRows(0, 0, 0, 1);
        Check.due("4: demand(4, 1, 3)", x.demand(4, 1, 3), 0);
        Check.due("4: K = 4: leftOut(0)", x.leftOut(0), 4);
        Check.due("4: K = 4: leftOut(1)", x.leftOut(1), 0);
        Check.due("4: S = 3: good(0)", x.good(0), false);
        Check.due("4: demand(1, 2, 4)", x.demand(1, 2, 4), 0);
        Check.due("4: L = 2: leftOut(1)", x.leftOut(1), 4);
        Check.due("4: S = 4: good(1)", x.good(1), true);
        Check.due("4: demand(1, 1, 0)", x.demand(1, 1, 0), 0);
        Check.due("4: K = 1, L = 1: leftOut(0)", x.leftOut(0), 0);
        Check.due("4: the rows stay", x.groups(0), 2);
    }
}
