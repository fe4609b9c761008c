/** Promises 2 to 12 by hand, on small tables; the boundary cases are in the tests of the edges. */
public final class PromisesTest {
    public static void main(String[] args) {
        rowTakesTwelveBits();
        drop();
        dropForgetsTheRow();
        demandInUse();
        leftOutByRows();
        leftOutBySecrets();
        good();
        goodSettings();
        finestTwo();
        finestOfOneSetting();
        best();
        groups();
        lookAlike();
        Check.finish();
    }

    private static void rowTakesTwelveBits() {
        PrivacyLattice x = Tables.withRows(0, 0xFFFFF000, 0x1000, Integer.MIN_VALUE, -1, 0xFFF, Integer.MAX_VALUE);
        Check.due("2: higher bits don't count, like 0", x.lookAlike(0, 0), 4);
        Check.due("2: higher bits don't count, like 0xFFF", x.lookAlike(0, 5), 3);
        Check.due("2: two groups", x.groups(0), 2);
        PrivacyLattice y = Tables.withRows(0x000, 0x001, 0x010, 0x100);
        Check.due("2: three attributes", y.groups(Tables.setting(0, 0, 0)), 4);
        Check.due("2: attribute 0 hidden", y.lookAlike(Tables.setting(4, 0, 0), 1), 2);
        Check.due("2: attribute 1 hidden", y.lookAlike(Tables.setting(0, 4, 0), 2), 2);
        Check.due("2: attribute 2 hidden", y.lookAlike(Tables.setting(0, 0, 4), 3), 2);
    }

    private static void drop() {
        PrivacyLattice x = Tables.withRows(1, 2, 3);
        Check.due("3: drop", x.drop(), 2);
        Check.due("3: the last row went", x.lookAlike(0, 2), PrivacyLattice.BAD_ROW);
        Check.due("3: the first stays", x.lookAlike(0, 0), 1);
        Check.due("3: drop", x.drop(), 1);
        Check.due("3: drop", x.drop(), 0);
        Check.due("3: none is there", x.drop(), PrivacyLattice.BAD_ROW);
        Check.due("3: none is there, again", x.drop(), PrivacyLattice.BAD_ROW);
        Check.due("3: numbers start at 0 again", x.row(1, 1), 0);
        Check.due("3: drop", x.drop(), 0);
    }

    private static void dropForgetsTheRow() {
        PrivacyLattice x = new PrivacyLattice();
        x.row(5, 0);
        x.row(5, 1);
        x.demand(2, 2, 0);
        Check.due("3: two secrets", x.leftOut(0), 0);
        x.drop();
        Check.due("3: one row alone", x.leftOut(0), 1);
        Check.due("3: groups", x.groups(0), 1);
        x.row(5, 0);
        Check.due("3: the dropped secret is gone", x.leftOut(0), 2);
        x.drop();
        x.row(6, 1);
        Check.due("3: the dropped values are gone", x.lookAlike(0, 1), 1);
        Check.due("3: K, L and S stay", x.leftOut(Tables.setting(2, 0, 0)), 0);
    }

    private static void demandInUse() {
        PrivacyLattice x = new PrivacyLattice();
        Check.due("4: least", x.demand(1, 1, 0), 0);
        Check.due("4: greatest", x.demand(8, 8, 16), 0);
        for (int i = 0; i < 16; i++) {
            x.row(0, i / 2);
        }
        x.demand(8, 8, 0);
        Check.due("4: K and L of 8 met", x.leftOut(0), 0);
        for (int i = 0; i < 9; i++) {
            x.drop();
        }
        x.demand(7, 4, 0);
        Check.due("4: K of 7 and L of 4 met by seven rows", x.good(0), true);
        x.demand(8, 4, 6);
        Check.due("4: K of 8 isn't", x.leftOut(0), 7);
        Check.due("4: S of 6 isn't enough", x.good(0), false);
        x.demand(7, 5, 7);
        Check.due("4: L of 5 isn't", x.leftOut(0), 7);
        Check.due("4: S of 7 is enough", x.good(0), true);
    }

    private static void leftOutByRows() {
        PrivacyLattice x = Tables.withRows(0x000, 0x000, 0x001, 0x002, 0x003);
        Check.due("5: level 0", x.leftOut(Tables.setting(0, 0, 0)), 3);
        Check.due("5: level 1", x.leftOut(Tables.setting(1, 0, 0)), 0);
        x.demand(3, 1, 0);
        Check.due("5: K of 3, level 0", x.leftOut(Tables.setting(0, 0, 0)), 5);
        Check.due("5: K of 3, level 1", x.leftOut(Tables.setting(1, 0, 0)), 2);
        Check.due("5: K of 3, level 2", x.leftOut(Tables.setting(2, 0, 0)), 0);
        x.demand(1, 1, 0);
        Check.due("5: K of 1", x.leftOut(Tables.setting(0, 0, 0)), 0);
        x.demand(6, 1, 16);
        Check.due("5: S doesn't count", x.leftOut(124), 5);
    }

    private static void leftOutBySecrets() {
        PrivacyLattice x = new PrivacyLattice();
        x.row(0, 4);
        x.row(0, 4);
        x.row(0, 4);
        x.row(1, 4);
        x.row(1, 7);
        x.demand(2, 2, 0);
        Check.due("5: three rows, one secret", x.leftOut(0), 3);
        Check.due("5: joined, two secrets", x.leftOut(1), 0);
        x.demand(3, 2, 0);
        Check.due("5: each group misses one demand", x.leftOut(0), 5);
        x.demand(1, 3, 0);
        Check.due("5: two secrets aren't three", x.leftOut(124), 5);
    }

    private static void good() {
        PrivacyLattice x = Tables.withRows(0, 0, 1, 2);
        Check.due("6: two left out, S of 0", x.good(0), false);
        x.demand(2, 1, 1);
        Check.due("6: two left out, S of 1", x.good(0), false);
        x.demand(2, 1, 2);
        Check.due("6: two left out, S of 2", x.good(0), true);
        x.demand(2, 1, 3);
        Check.due("6: two left out, S of 3", x.good(0), true);
        x.demand(8, 8, 4);
        Check.due("6: all left out, S of 4", x.good(124), true);
        x.demand(8, 8, 3);
        Check.due("6: all left out, S of 3", x.good(124), false);
    }

    private static void goodSettings() {
        PrivacyLattice x = Tables.withRows(0x000, 0x004);
        Check.due("7: level 3 or 4 of attribute 0", x.goodSettings(), 50);
        PrivacyLattice y = Tables.withRows(0x000, 0x124);
        Check.due("7: 2 times 3 times 4 levels", y.goodSettings(), 24);
        PrivacyLattice z = Tables.withRows(0x777, 0x888);
        Check.due("7: the coarsest alone", z.goodSettings(), 1);
        z.demand(3, 1, 1);
        Check.due("7: none", z.goodSettings(), 0);
        z.demand(3, 1, 2);
        Check.due("7: all", z.goodSettings(), 125);
    }

    private static void finestTwo() {
        PrivacyLattice x = Tables.withRows(0x000, 0x001, 0x010);
        x.demand(2, 1, 1);
        Check.due("8: goodSettings", x.goodSettings(), 120);
        Check.due("8: two", x.finest(), 2);
        Check.due("9: first", x.finestAt(0), Tables.setting(1, 0, 0));
        Check.due("9: second", x.finestAt(1), Tables.setting(0, 1, 0));
        for (int i : new int[] {2, 3, 124, 125, -1, -2, Integer.MIN_VALUE, Integer.MAX_VALUE}) {
            Check.due("9: finestAt(" + i + ")", x.finestAt(i), PrivacyLattice.NONE);
        }
        x.row(0x800, 0);
        x.demand(2, 1, 2);
        Check.due("8: three", x.finest(), 3);
        Check.due("9: third", x.finestAt(2), Tables.setting(0, 0, 4));
        Check.due("9: no fourth", x.finestAt(3), PrivacyLattice.NONE);
    }

    private static void finestOfOneSetting() {
        PrivacyLattice x = Tables.withRows(0x777, 0x888);
        Check.due("8: the coarsest alone", x.finest(), 1);
        Check.due("9: the coarsest alone", x.finestAt(0), 124);
        Check.due("9: no second", x.finestAt(1), PrivacyLattice.NONE);
        x.drop();
        Check.due("8: none is good", x.finest(), 0);
        Check.due("9: none is good", x.finestAt(0), PrivacyLattice.NONE);
        Check.due("9: none is good", x.finestAt(-1), PrivacyLattice.NONE);
        x.demand(2, 1, 1);
        Check.due("8: all are good", x.finest(), 1);
        Check.due("9: all are good", x.finestAt(0), 0);
    }

    private static void best() {
        PrivacyLattice tie = Tables.withRows(0x000, 0x001, 0x010);
        tie.demand(2, 1, 1);
        Check.due("10: of two with the same sum", tie.best(), Tables.setting(1, 0, 0));
        PrivacyLattice sum = Tables.withRows(0x000, 0x008, 0x010);
        sum.demand(2, 1, 1);
        Check.due("10: the lesser number is finest", sum.finestAt(0), Tables.setting(4, 0, 0));
        Check.due("10: the greater number has the lesser sum", sum.best(), Tables.setting(0, 1, 0));
        PrivacyLattice third = Tables.withRows(0x000, 0x020, 0x100);
        third.demand(2, 1, 1);
        Check.due("10: sum 1 at 25, sum 2 at 10", third.best(), Tables.setting(0, 0, 1));
        PrivacyLattice weight = Tables.withRows(0x000, 0x001, 0x800);
        weight.demand(2, 1, 1);
        Check.due("10: sum 1 at 1, sum 4 at 100", weight.best(), Tables.setting(1, 0, 0));
        PrivacyLattice last = Tables.withRows(0x777, 0x888);
        Check.due("10: the greatest sum", last.best(), 124);
        last.drop();
        Check.due("10: none is good", last.best(), PrivacyLattice.NONE);
    }

    private static void groups() {
        PrivacyLattice x = new PrivacyLattice();
        for (int i = 0; i < 16; i++) {
            x.row(Tables.values(i, 15 - i, 0), i % 8);
        }
        int[] due = {16, 8, 4, 2, 1};
        for (int level = 0; level <= 4; level++) {
            Check.due("11: attribute 0 at level " + level, x.groups(Tables.setting(level, 4, 0)), due[level]);
            Check.due("11: attribute 1 at level " + level, x.groups(Tables.setting(4, level, 0)), due[level]);
        }
        Check.due("11: attribute 1 tells all apart", x.groups(Tables.setting(4, 0, 0)), 16);
        PrivacyLattice y = Tables.withRows(0x300, 0x900, 0x300, 0x800, 0x300);
        Check.due("11: rows of a group needn't stand together", y.groups(0), 3);
        Check.due("11: attribute 2 at level 1", y.groups(Tables.setting(0, 0, 1)), 2);
        Check.due("11: attribute 2 at level 3", y.groups(Tables.setting(0, 0, 3)), 2);
        Check.due("11: attribute 2 at level 4", y.groups(Tables.setting(0, 0, 4)), 1);
        y.demand(8, 8, 0);
        Check.due("11: groups that aren't hidden enough count", y.groups(0), 3);
    }

    private static void lookAlike() {
        PrivacyLattice x = Tables.withRows(0x004, 0x005, 0x006, 0x004);
        Check.due("12: itself and one more", x.lookAlike(0, 0), 2);
        Check.due("12: itself alone", x.lookAlike(0, 1), 1);
        Check.due("12: the last row", x.lookAlike(0, 3), 2);
        Check.due("12: level 1", x.lookAlike(Tables.setting(1, 0, 0), 1), 3);
        Check.due("12: level 2", x.lookAlike(Tables.setting(2, 0, 0), 2), 4);
        for (int r : new int[] {4, 5, 15, 16, 17, -1, Integer.MIN_VALUE, Integer.MAX_VALUE}) {
            Check.due("12: row " + r, x.lookAlike(0, r), PrivacyLattice.BAD_ROW);
            Check.due("12: the setting is tested first, row " + r, x.lookAlike(125, r), PrivacyLattice.BAD_SETTING);
        }
        PrivacyLattice y = new PrivacyLattice();
        y.row(0, 1);
        y.row(0, 2);
        Check.due("12: secrets don't count", y.lookAlike(0, 0), 2);
    }
}
