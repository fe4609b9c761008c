import java.util.LinkedHashMap;
import java.util.Map;
import java.util.function.Function;
import java.util.function.Supplier;

/** The boundary cases of promises 5 to 12, the calls that change nothing, and of what is said ahead of them. */
public final class QueriesEdgesTest {
    private static final int[] BAD_SETTINGS = {-1, 125, Tables.LEAST, Tables.GREATEST};
    private static final int[] BAD_ROWS = {-1, 16, Tables.LEAST, Tables.GREATEST};

    public static void main(String[] args) {
        theCallsChangeNothing();
        badSettingsAreRefused();
        firstAndLastSettingAreTaken();
        settingIsTestedFirst();
        noRows();
        oneRow();
        sixteenRowsAlike();
        sixteenRowsApart();
        sixteenRowsWithOneAside();
        sixteenRowsNeverHidden();
        finestAtNoneIfThereIsNone();
        bestOfTheLeastSum();
        bestOfTheSmallestNumber();
        bestNoneIfNoneIsGood();
        groupsOfNoRows();
        groupsOfRowsAllAlike();
        groupsOfRowsNoTwoAlike();
        lookAlikeCountsItself();
        lookAlikeRefusesARow();
        Check.finish();
    }

    private static void theCallsChangeNothing() {
        for (Map.Entry<String, Supplier<PrivacyLattice>> state : Tables.states().entrySet()) {
            for (Map.Entry<String, Function<PrivacyLattice, Object>> call : queries().entrySet()) {
                Object due = call.getValue().apply(state.getValue().get());
                Probe.changesNothing("5 to 12: " + state.getKey() + ": " + call.getKey(),
                        state.getValue(), call.getValue(), due);
            }
        }
    }

    /** Each call below the sentence "The calls below change nothing", at both ends of its arguments. */
    private static Map<String, Function<PrivacyLattice, Object>> queries() {
        Map<String, Function<PrivacyLattice, Object>> calls = new LinkedHashMap<>();
        for (int setting : new int[] {0, 62, 124}) {
            calls.put("leftOut(" + setting + ")", x -> x.leftOut(setting));
            calls.put("good(" + setting + ")", x -> x.good(setting));
            calls.put("groups(" + setting + ")", x -> x.groups(setting));
            for (int r : new int[] {0, 1, 15}) {
                calls.put("lookAlike(" + setting + ", " + r + ")", x -> x.lookAlike(setting, r));
            }
        }
        calls.put("goodSettings()", x -> x.goodSettings());
        calls.put("finest()", x -> x.finest());
        for (int i : new int[] {Tables.LEAST, -1, 0, 1, 124, 125, Tables.GREATEST}) {
            calls.put("finestAt(" + i + ")", x -> x.finestAt(i));
        }
        calls.put("best()", x -> x.best());
        return calls;
    }

    private static void badSettingsAreRefused() {
        for (Map.Entry<String, Supplier<PrivacyLattice>> state : Tables.states().entrySet()) {
            for (int setting : BAD_SETTINGS) {
                refused(state, "5: leftOut", setting, x -> x.leftOut(setting), PrivacyLattice.BAD_SETTING);
                refused(state, "6: good", setting, x -> x.good(setting), false);
                refused(state, "11: groups", setting, x -> x.groups(setting), PrivacyLattice.BAD_SETTING);
                refused(state, "12: lookAlike", setting, x -> x.lookAlike(setting, 0), PrivacyLattice.BAD_SETTING);
            }
        }
    }

    private static void refused(Map.Entry<String, Supplier<PrivacyLattice>> state, String call, int setting,
            Function<PrivacyLattice, Object> answer, Object want) {
        Probe.changesNothing(call + " at " + setting + " with " + state.getKey(), state.getValue(), answer, want);
    }

    /** Two rows that look alike at 124 alone, so the ends answer differently. */
    private static void firstAndLastSettingAreTaken() {
        PrivacyLattice x = Tables.withRows(0x777, 0x888);
        Check.due("5: leftOut(0)", x.leftOut(0), 2);
        Check.due("5: leftOut(124)", x.leftOut(124), 0);
        Check.due("6: good(0)", x.good(0), false);
        Check.due("6: good(124)", x.good(124), true);
        Check.due("11: groups(0)", x.groups(0), 2);
        Check.due("11: groups(124)", x.groups(124), 1);
        Check.due("12: lookAlike(0, 1)", x.lookAlike(0, 1), 1);
        Check.due("12: lookAlike(124, 1)", x.lookAlike(124, 1), 2);
        Check.due("6: demand(2, 1, 2)", x.demand(2, 1, 2), 0);
        for (int setting : BAD_SETTINGS) {
            Check.due("6: all settings are good, but " + setting + " is none", x.good(setting), false);
        }
    }

    private static void settingIsTestedFirst() {
        for (Map.Entry<String, Supplier<PrivacyLattice>> state : Tables.states().entrySet()) {
            for (int setting : BAD_SETTINGS) {
                for (int r : BAD_ROWS) {
                    Probe.changesNothing("12: " + state.getKey() + ": lookAlike(" + setting + ", " + r + ")",
                            state.getValue(), x -> x.lookAlike(setting, r), PrivacyLattice.BAD_SETTING);
                }
            }
        }
    }

    /** With no rows nothing has to be left out, however much is demanded. */
    private static void noRows() {
        int[][] demands = {{2, 1, 0}, {1, 1, 0}, {8, 8, 0}, {8, 8, 16}};
        for (int[] d : demands) {
            PrivacyLattice x = new PrivacyLattice();
            Check.due("no rows: demand", x.demand(d[0], d[1], d[2]), 0);
            everySettingAnswers("no rows", x, 0, true);
            allAreGood("no rows", x);
        }
    }

    private static void oneRow() {
        PrivacyLattice tooFew = Tables.withRows(0xFFF);
        everySettingAnswers("one row, K = 2, S = 0", tooFew, 1, false);
        noneIsGood("one row, K = 2, S = 0", tooFew);
        PrivacyLattice leftOut = Tables.withRows(0xFFF);
        Check.due("one row: demand(2, 1, 1)", leftOut.demand(2, 1, 1), 0);
        everySettingAnswers("one row, K = 2, S = 1", leftOut, 1, true);
        allAreGood("one row, K = 2, S = 1", leftOut);
        PrivacyLattice enough = Tables.withRows(0xFFF);
        Check.due("one row: demand(1, 1, 0)", enough.demand(1, 1, 0), 0);
        everySettingAnswers("one row, K = 1, L = 1", enough, 0, true);
        allAreGood("one row, K = 1, L = 1", enough);
        PrivacyLattice oneSecret = Tables.withRows(0xFFF);
        Check.due("one row: demand(1, 2, 0)", oneSecret.demand(1, 2, 0), 0);
        everySettingAnswers("one row, K = 1, L = 2", oneSecret, 1, false);
        noneIsGood("one row, K = 1, L = 2", oneSecret);
    }

    private static void sixteenRowsAlike() {
        PrivacyLattice x = Tables.sixteenAlike();
        Check.due("sixteen alike: demand(8, 8, 0)", x.demand(8, 8, 0), 0);
        everySettingAnswers("sixteen alike", x, 0, true);
        allAreGood("sixteen alike", x);
    }

    /** At level 1, 2, 3 and 4 groups of two, four, eight and sixteen rows. */
    private static void sixteenRowsApart() {
        int[] levelForK = {0, 0, 1, 2, 2, 3, 3, 3, 3};
        for (int attribute = 0; attribute < 3; attribute++) {
            PrivacyLattice x = Tables.sixteenApart(attribute);
            for (int k = 1; k <= 8; k++) {
                Check.due("sixteen apart: demand(" + k + ", 1, 0)", x.demand(k, 1, 0), 0);
                goodFromLevel("sixteen apart, K = " + k, x, attribute, levelForK[k]);
                Check.due("sixteen apart: demand(1, " + k + ", 15)", x.demand(1, k, 15), 0);
                goodFromLevel("sixteen apart, L = " + k, x, attribute, levelForK[k]);
            }
            Check.due("sixteen apart: demand(8, 8, 16)", x.demand(8, 8, 16), 0);
            allAreGood("sixteen apart, S = 16", x);
        }
    }

    private static void goodFromLevel(String at, PrivacyLattice x, int attribute, int level) {
        String name = at + ", attribute " + attribute;
        int first = Tables.settingOf(attribute, level);
        if (level > 0) {
            int justFiner = Tables.settingOf(attribute, level - 1);
            Check.due("5: " + name + ", one level less", x.leftOut(justFiner), 16);
            Check.due("6: " + name + ", one level less", x.good(justFiner), false);
        }
        Check.due("5: " + name, x.leftOut(first), 0);
        Check.due("6: " + name, x.good(first), true);
        Check.due("7: " + name, x.goodSettings(), (5 - level) * 25);
        Check.due("8: " + name, x.finest(), 1);
        Check.due("9: " + name, x.finestAt(0), first);
        Check.due("9: " + name + ", no second", x.finestAt(1), PrivacyLattice.NONE);
        Check.due("10: " + name, x.best(), first);
    }

    /** One row that is alone until all three attributes are at level 4. */
    private static void sixteenRowsWithOneAside() {
        PrivacyLattice x = new PrivacyLattice();
        for (int i = 0; i < 15; i++) {
            Check.due("one aside: row " + i, x.row(0x777, i % 8), i);
        }
        Check.due("one aside: row 15", x.row(0x888, 7), 15);
        Check.due("one aside: demand(8, 8, 0)", x.demand(8, 8, 0), 0);
        for (int setting = 0; setting < 124; setting++) {
            Check.due("5: one aside, leftOut(" + setting + ")", x.leftOut(setting), 1);
            Check.due("6: one aside, good(" + setting + ")", x.good(setting), false);
        }
        Check.due("5: one aside, leftOut(124)", x.leftOut(124), 0);
        Check.due("6: one aside, good(124)", x.good(124), true);
        Check.due("7: one aside", x.goodSettings(), 1);
        Check.due("8: one aside", x.finest(), 1);
        Check.due("9: one aside", x.finestAt(0), 124);
        Check.due("9: one aside, no second", x.finestAt(1), PrivacyLattice.NONE);
        Check.due("10: one aside", x.best(), 124);
        Check.due("one aside: demand(8, 8, 1)", x.demand(8, 8, 1), 0);
        allAreGood("one aside, S = 1", x);
    }

    private static void sixteenRowsNeverHidden() {
        PrivacyLattice x = Tables.neverHidden();
        everySettingAnswers("never hidden, S = 15", x, 16, false);
        noneIsGood("never hidden, S = 15", x);
        PrivacyLattice y = Tables.neverHidden();
        Check.due("never hidden: demand(1, 8, 16)", y.demand(1, 8, 16), 0);
        everySettingAnswers("never hidden, S = 16", y, 16, true);
        allAreGood("never hidden, S = 16", y);
    }

    private static void everySettingAnswers(String at, PrivacyLattice x, int leftOut, boolean good) {
        for (int setting = 0; setting <= 124; setting++) {
            Check.due("5: " + at + ", leftOut(" + setting + ")", x.leftOut(setting), leftOut);
            Check.due("6: " + at + ", good(" + setting + ")", x.good(setting), good);
        }
    }

    private static void allAreGood(String at, PrivacyLattice x) {
        Check.due("7: " + at, x.goodSettings(), 125);
        Check.due("8: " + at, x.finest(), 1);
        Check.due("9: " + at + ", finestAt(0)", x.finestAt(0), 0);
        Check.due("9: " + at + ", finestAt(1)", x.finestAt(1), PrivacyLattice.NONE);
        Check.due("10: " + at, x.best(), 0);
    }

    private static void noneIsGood(String at, PrivacyLattice x) {
        Check.due("7: " + at, x.goodSettings(), 0);
        Check.due("8: " + at, x.finest(), 0);
        Check.due("9: " + at + ", finestAt(0)", x.finestAt(0), PrivacyLattice.NONE);
        Check.due("9: " + at + ", finestAt(-1)", x.finestAt(-1), PrivacyLattice.NONE);
        Check.due("10: " + at, x.best(), PrivacyLattice.NONE);
    }

    private static PrivacyLattice twoFinest() {
        PrivacyLattice x = Tables.withRows(0x000, 0x001, 0x010);
        Check.due("two finest: demand(2, 1, 1)", x.demand(2, 1, 1), 0);
        return x;
    }

    private static void finestAtNoneIfThereIsNone() {
        PrivacyLattice x = twoFinest();
        Check.due("9: the first", x.finestAt(0), 1);
        Check.due("9: the last", x.finestAt(1), 5);
        for (int i : new int[] {2, -1, 124, 125, Tables.LEAST, Tables.GREATEST}) {
            Probe.changesNothing("9: finestAt(" + i + ")", QueriesEdgesTest::twoFinest, y -> y.finestAt(i),
                    PrivacyLattice.NONE);
        }
    }

    private static void bestOfTheLeastSum() {
        // Good from level 4 of attribute 0 on, and from level 1 of attribute 2 on.
        PrivacyLattice greaterNumber = Tables.withRows(0x000, 0x008, 0x100);
        Check.due("10: demand(2, 1, 1)", greaterNumber.demand(2, 1, 1), 0);
        Check.due("10: sum 4 is finest", greaterNumber.finestAt(0), 4);
        Check.due("10: sum 1 is best", greaterNumber.best(), 25);
        PrivacyLattice smallerNumber = Tables.withRows(0x000, 0x001, 0x800);
        Check.due("10: demand(2, 1, 1)", smallerNumber.demand(2, 1, 1), 0);
        Check.due("10: sum 4 is finest", smallerNumber.finestAt(1), 100);
        Check.due("10: sum 1 is best", smallerNumber.best(), 1);
    }

    private static void bestOfTheSmallestNumber() {
        int[] orders = {0x001, 0x010, 0x100};
        for (int first = 0; first < 3; first++) {
            PrivacyLattice x = Tables.withRows(0x000, orders[first], orders[(first + 1) % 3], orders[(first + 2) % 3]);
            Check.due("10: demand(2, 1, 2)", x.demand(2, 1, 2), 0);
            Check.due("10: three of the same sum", x.finest(), 3);
            Check.due("10: 1 ahead of 5 and 25", x.best(), 1);
        }
        PrivacyLattice two = Tables.withRows(0x000, 0x010, 0x100);
        Check.due("10: demand(2, 1, 1)", two.demand(2, 1, 1), 0);
        Check.due("10: 5 ahead of 25", two.best(), 5);
    }

    private static void bestNoneIfNoneIsGood() {
        PrivacyLattice x = Tables.withRows(0x777, 0x888);
        Check.due("10: 124 alone is good", x.best(), 124);
        Check.due("10: demand(3, 1, 1)", x.demand(3, 1, 1), 0);
        Check.due("10: none is good", x.best(), PrivacyLattice.NONE);
        Check.due("10: a row more", x.row(0xFFF, 0), 2);
        Check.due("10: 124 alone is good again", x.best(), 124);
    }

    private static void groupsOfNoRows() {
        PrivacyLattice x = new PrivacyLattice();
        for (int setting = 0; setting <= 124; setting++) {
            Check.due("11: no rows, groups(" + setting + ")", x.groups(setting), 0);
        }
        x.row(0, 0);
        Check.due("11: one row", x.groups(0), 1);
        x.drop();
        Check.due("11: no rows again", x.groups(0), 0);
    }

    private static void groupsOfRowsAllAlike() {
        PrivacyLattice x = Tables.sixteenAlike();
        for (int setting = 0; setting <= 124; setting++) {
            Check.due("11: all alike, groups(" + setting + ")", x.groups(setting), 1);
        }
    }

    private static void groupsOfRowsNoTwoAlike() {
        for (int attribute = 0; attribute < 3; attribute++) {
            PrivacyLattice x = Tables.sixteenApart(attribute);
            int[] due = {16, 8, 4, 2, 1};
            for (int level = 0; level <= 4; level++) {
                String at = "11: apart by attribute " + attribute + ", level " + level;
                Check.due(at, x.groups(Tables.settingOf(attribute, level)), due[level]);
                int othersHidden = Tables.setting(4, 4, 4) - Tables.settingOf(attribute, 4 - level);
                Check.due(at + ", the others hidden", x.groups(othersHidden), due[level]);
            }
        }
        PrivacyLattice y = new PrivacyLattice();
        for (int i = 0; i < 16; i++) {
            y.row(Tables.values(i, 15 - i, i), 0);
        }
        Check.due("11: no two alike", y.groups(0), 16);
        Check.due("11: no two alike with two hidden", y.groups(Tables.setting(0, 4, 4)), 16);
        Check.due("11: all hidden", y.groups(124), 1);
    }

    private static void lookAlikeCountsItself() {
        PrivacyLattice x = Tables.sixteenApart(0);
        PrivacyLattice y = Tables.sixteenAlike();
        for (int r = 0; r < 16; r++) {
            Check.due("12: row " + r + " by itself", x.lookAlike(0, r), 1);
            Check.due("12: row " + r + " and one more", x.lookAlike(1, r), 2);
            Check.due("12: row " + r + " and fifteen more", x.lookAlike(4, r), 16);
            Check.due("12: row " + r + " of sixteen alike", y.lookAlike(0, r), 16);
        }
    }

    private static void lookAlikeRefusesARow() {
        for (Map.Entry<String, Supplier<PrivacyLattice>> state : Tables.states().entrySet()) {
            for (int setting : new int[] {0, 124}) {
                for (int r : BAD_ROWS) {
                    Probe.changesNothing("12: " + state.getKey() + ": lookAlike(" + setting + ", " + r + ")",
                            state.getValue(), x -> x.lookAlike(setting, r), PrivacyLattice.BAD_ROW);
                }
            }
        }
        PrivacyLattice x = new PrivacyLattice();
        for (int rows = 0; rows < 16; rows++) {
            Check.due("12: of " + rows + " rows, row " + rows, x.lookAlike(124, rows), PrivacyLattice.BAD_ROW);
            x.row(rows, 0);
            Check.due("12: of " + (rows + 1) + " rows, row " + rows, x.lookAlike(124, rows), rows + 1);
        }
        for (int left = 15; left >= 0; left--) {
            x.drop();
            Check.due("12: dropped, row " + left, x.lookAlike(124, left), PrivacyLattice.BAD_ROW);
        }
    }
}
