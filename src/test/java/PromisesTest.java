/** Each promise by hand: ordinary inputs, the edges that the document names, and wrong inputs. */
public final class PromisesTest {
    private static final int BAD_VALUE = -1;
    private static final int FULL = -2;
    private static final int BAD_ROW = -3;
    private static final int BAD_SETTING = -4;
    private static final int NONE = -5;
    private static final int[] BAD_SETTINGS = {-1, 125, -125, 126, Integer.MIN_VALUE, Integer.MAX_VALUE};

    public static void main(String[] args) {
        newObject();
        rowNumbersAndWrongSecrets();
        rowTakesTwelveBits();
        rowWhenFull();
        drop();
        dropForgetsTheRow();
        demandEdges();
        demandRefused();
        leftOutByRows();
        leftOutBySecrets();
        good();
        goodSettings();
        finestTwo();
        finestOfOneSetting();
        best();
        groups();
        lookAlike();
        badSettings();
        queriesChangeNothing();
        the512thCall();
        Check.finish();
    }

    private static int setting(int level0, int level1, int level2) {
        return level0 + 5 * level1 + 25 * level2;
    }

    private static int values(int attribute0, int attribute1, int attribute2) {
        return attribute0 + 16 * attribute1 + 256 * attribute2;
    }

    /** An object with these rows, all with secret 0. */
    private static PrivacyLattice withRows(int... values) {
        PrivacyLattice x = new PrivacyLattice();
        for (int i = 0; i < values.length; i++) {
            Check.due("row " + i, x.row(values[i], 0), i);
        }
        return x;
    }

    private static void newObject() {
        PrivacyLattice x = new PrivacyLattice();
        Check.due("1: groups of no rows", x.groups(0), 0);
        Check.due("1: leftOut of no rows", x.leftOut(0), 0);
        Check.due("1: good with no rows", x.good(0), true);
        Check.due("1: goodSettings with no rows", x.goodSettings(), 125);
        Check.due("1: finest with no rows", x.finest(), 1);
        Check.due("1: finestAt(0) with no rows", x.finestAt(0), 0);
        Check.due("1: finestAt(1) with no rows", x.finestAt(1), NONE);
        Check.due("1: best with no rows", x.best(), 0);
        Check.due("1: lookAlike with no rows", x.lookAlike(0, 0), BAD_ROW);
        Check.due("1: drop with no rows", x.drop(), BAD_ROW);
        Check.due("1: first row", x.row(0, 3), 0);
        Check.due("1: K is above 1", x.leftOut(124), 1);
        Check.due("1: S is 0", x.good(124), false);
        Check.due("1: second row", x.row(0, 3), 1);
        Check.due("1: K is 2 and L is 1", x.leftOut(124), 0);
        PrivacyLattice y = new PrivacyLattice();
        Check.due("1: objects share nothing", y.row(0, 0), 0);
    }

    private static void rowNumbersAndWrongSecrets() {
        PrivacyLattice x = new PrivacyLattice();
        for (int secret : new int[] {-1, 8, 9, -8, Integer.MIN_VALUE, Integer.MAX_VALUE}) {
            Check.due("2: secret " + secret, x.row(0, secret), BAD_VALUE);
        }
        Check.due("2: a refused row isn't added", x.groups(0), 0);
        for (int secret = 0; secret <= 7; secret++) {
            Check.due("2: secret " + secret, x.row(0, secret), secret);
            x.demand(1, secret + 1, 0);
            Check.due("2: the secret is kept", x.leftOut(0), 0);
        }
    }

    private static void rowTakesTwelveBits() {
        PrivacyLattice x = withRows(0, 0xFFFFF000, 0x1000, Integer.MIN_VALUE, -1, 0xFFF, Integer.MAX_VALUE);
        Check.due("2: higher bits don't count, like 0", x.lookAlike(0, 0), 4);
        Check.due("2: higher bits don't count, like 0xFFF", x.lookAlike(0, 5), 3);
        Check.due("2: two groups", x.groups(0), 2);
        PrivacyLattice y = withRows(0x000, 0x001, 0x010, 0x100);
        Check.due("2: three attributes", y.groups(setting(0, 0, 0)), 4);
        Check.due("2: attribute 0 hidden", y.lookAlike(setting(4, 0, 0), 1), 2);
        Check.due("2: attribute 1 hidden", y.lookAlike(setting(0, 4, 0), 2), 2);
        Check.due("2: attribute 2 hidden", y.lookAlike(setting(0, 0, 4), 3), 2);
    }

    private static void rowWhenFull() {
        PrivacyLattice x = new PrivacyLattice();
        for (int i = 0; i < 16; i++) {
            Check.due("2: row " + i, x.row(i, 7), i);
        }
        Check.due("2: the seventeenth", x.row(0, 0), FULL);
        Check.due("2: secret is tested ahead of full", x.row(0, 8), BAD_VALUE);
        Check.due("2: secret is tested ahead of full", x.row(0, -1), BAD_VALUE);
        Check.due("2: nothing changed, groups", x.groups(0), 16);
        Check.due("2: nothing changed, rows", x.lookAlike(124, 15), 16);
        Check.due("2: nothing changed, numbers", x.lookAlike(124, 16), BAD_ROW);
        x.demand(1, 2, 15);
        Check.due("2: nothing changed, secrets", x.leftOut(124), 16);
        Check.due("2: one out", x.drop(), 15);
        Check.due("2: room again", x.row(0, 0), 15);
        Check.due("2: full again", x.row(0, 0), FULL);
    }

    private static void drop() {
        PrivacyLattice x = withRows(1, 2, 3);
        Check.due("3: drop", x.drop(), 2);
        Check.due("3: the last row went", x.lookAlike(0, 2), BAD_ROW);
        Check.due("3: the first stays", x.lookAlike(0, 0), 1);
        Check.due("3: drop", x.drop(), 1);
        Check.due("3: drop", x.drop(), 0);
        Check.due("3: none is there", x.drop(), BAD_ROW);
        Check.due("3: none is there, again", x.drop(), BAD_ROW);
        Check.due("3: numbers start at 0 again", x.row(1, 1), 0);
        Check.due("3: drop", x.drop(), 0);
    }

    private static void dropForgetsTheRow() {
        PrivacyLattice x = new PrivacyLattice();
        x.row(5, 0);
        x.row(5, 1);
        x.demand(2, 2, 0);
        Check.due("3: two secrets", x.leftOut(0), 0);
        x.drop();
        Check.due("3: one row alone", x.leftOut(0), 1);
        Check.due("3: groups", x.groups(0), 1);
        x.row(5, 0);
        Check.due("3: the dropped secret is gone", x.leftOut(0), 2);
        x.drop();
        x.row(6, 1);
        Check.due("3: the dropped values are gone", x.lookAlike(0, 1), 1);
        Check.due("3: K, L and S stay", x.leftOut(setting(2, 0, 0)), 0);
    }

    private static void demandEdges() {
        PrivacyLattice x = new PrivacyLattice();
        Check.due("4: least", x.demand(1, 1, 0), 0);
        Check.due("4: greatest", x.demand(8, 8, 16), 0);
        for (int i = 0; i < 16; i++) {
            x.row(0, i / 2);
        }
        x.demand(8, 8, 0);
        Check.due("4: K and L of 8 met", x.leftOut(0), 0);
        for (int i = 0; i < 9; i++) {
            x.drop();
        }
        x.demand(7, 4, 0);
        Check.due("4: K of 7 and L of 4 met by seven rows", x.good(0), true);
        x.demand(8, 4, 6);
        Check.due("4: K of 8 isn't", x.leftOut(0), 7);
        Check.due("4: S of 6 isn't enough", x.good(0), false);
        x.demand(7, 5, 7);
        Check.due("4: L of 5 isn't", x.leftOut(0), 7);
        Check.due("4: S of 7 is enough", x.good(0), true);
    }

    private static void demandRefused() {
        PrivacyLattice x = withRows(0, 0, 0, 1);
        x.demand(3, 1, 1);
        int[][] wrong = {
            {0, 1, 0}, {9, 1, 0}, {-1, 1, 0}, {Integer.MIN_VALUE, 1, 0}, {Integer.MAX_VALUE, 1, 0},
            {1, 0, 0}, {1, 9, 0}, {1, -1, 0}, {1, Integer.MIN_VALUE, 0}, {1, Integer.MAX_VALUE, 0},
            {1, 1, -1}, {1, 1, 17}, {1, 1, Integer.MIN_VALUE}, {1, 1, Integer.MAX_VALUE},
            {8, 8, 17}, {8, 0, 16}, {0, 8, 16},
        };
        for (int[] d : wrong) {
            String call = "4: demand(" + d[0] + ", " + d[1] + ", " + d[2] + ")";
            Check.due(call, x.demand(d[0], d[1], d[2]), BAD_VALUE);
            Check.due(call + ": K and L unchanged", x.leftOut(0), 1);
            Check.due(call + ": S unchanged", x.good(0), true);
        }
        x.row(2, 0);
        Check.due("4: S is still 1", x.good(0), false);
    }

    private static void leftOutByRows() {
        PrivacyLattice x = withRows(values(0, 0, 0), values(0, 0, 0), values(1, 0, 0), values(2, 0, 0), values(3, 0, 0));
        Check.due("5: level 0", x.leftOut(setting(0, 0, 0)), 3);
        Check.due("5: level 1", x.leftOut(setting(1, 0, 0)), 0);
        x.demand(3, 1, 0);
        Check.due("5: K of 3, level 0", x.leftOut(setting(0, 0, 0)), 5);
        Check.due("5: K of 3, level 1", x.leftOut(setting(1, 0, 0)), 2);
        Check.due("5: K of 3, level 2", x.leftOut(setting(2, 0, 0)), 0);
        x.demand(1, 1, 0);
        Check.due("5: K of 1", x.leftOut(setting(0, 0, 0)), 0);
        x.demand(6, 1, 16);
        Check.due("5: S doesn't count", x.leftOut(124), 5);
    }

    private static void leftOutBySecrets() {
        PrivacyLattice x = new PrivacyLattice();
        x.row(0, 4);
        x.row(0, 4);
        x.row(0, 4);
        x.row(1, 4);
        x.row(1, 7);
        x.demand(2, 2, 0);
        Check.due("5: three rows, one secret", x.leftOut(0), 3);
        Check.due("5: joined, two secrets", x.leftOut(1), 0);
        x.demand(3, 2, 0);
        Check.due("5: each group misses one demand", x.leftOut(0), 5);
        x.demand(1, 3, 0);
        Check.due("5: two secrets aren't three", x.leftOut(124), 5);
    }

    private static void good() {
        PrivacyLattice x = withRows(0, 0, 1, 2);
        Check.due("6: two left out, S of 0", x.good(0), false);
        x.demand(2, 1, 1);
        Check.due("6: two left out, S of 1", x.good(0), false);
        x.demand(2, 1, 2);
        Check.due("6: two left out, S of 2", x.good(0), true);
        x.demand(2, 1, 3);
        Check.due("6: two left out, S of 3", x.good(0), true);
        x.demand(8, 8, 4);
        Check.due("6: all left out, S of 4", x.good(124), true);
        x.demand(8, 8, 3);
        Check.due("6: all left out, S of 3", x.good(124), false);
    }

    private static void goodSettings() {
        PrivacyLattice x = withRows(values(0, 0, 0), values(4, 0, 0));
        Check.due("7: level 3 or 4 of attribute 0", x.goodSettings(), 50);
        PrivacyLattice y = withRows(values(0, 0, 0), values(4, 2, 1));
        Check.due("7: 2 times 3 times 4 levels", y.goodSettings(), 24);
        PrivacyLattice z = withRows(values(7, 7, 7), values(8, 8, 8));
        Check.due("7: the coarsest alone", z.goodSettings(), 1);
        z.demand(3, 1, 1);
        Check.due("7: none", z.goodSettings(), 0);
        z.demand(3, 1, 2);
        Check.due("7: all", z.goodSettings(), 125);
    }

    private static void finestTwo() {
        PrivacyLattice x = withRows(values(0, 0, 0), values(1, 0, 0), values(0, 1, 0));
        x.demand(2, 1, 1);
        Check.due("8: goodSettings", x.goodSettings(), 120);
        Check.due("8: two", x.finest(), 2);
        Check.due("9: first", x.finestAt(0), setting(1, 0, 0));
        Check.due("9: second", x.finestAt(1), setting(0, 1, 0));
        for (int i : new int[] {2, 3, 124, 125, -1, -2, Integer.MIN_VALUE, Integer.MAX_VALUE}) {
            Check.due("9: finestAt(" + i + ")", x.finestAt(i), NONE);
        }
        x.row(values(0, 0, 8), 0);
        x.demand(2, 1, 2);
        Check.due("8: three", x.finest(), 3);
        Check.due("9: third", x.finestAt(2), setting(0, 0, 4));
        Check.due("9: no fourth", x.finestAt(3), NONE);
    }

    private static void finestOfOneSetting() {
        PrivacyLattice x = withRows(values(7, 7, 7), values(8, 8, 8));
        Check.due("8: the coarsest alone", x.finest(), 1);
        Check.due("9: the coarsest alone", x.finestAt(0), 124);
        Check.due("9: no second", x.finestAt(1), NONE);
        x.drop();
        Check.due("8: none is good", x.finest(), 0);
        Check.due("9: none is good", x.finestAt(0), NONE);
        Check.due("9: none is good", x.finestAt(-1), NONE);
        x.demand(2, 1, 1);
        Check.due("8: all are good", x.finest(), 1);
        Check.due("9: all are good", x.finestAt(0), 0);
    }

    private static void best() {
        PrivacyLattice tie = withRows(values(0, 0, 0), values(1, 0, 0), values(0, 1, 0));
        tie.demand(2, 1, 1);
        Check.due("10: of two with the same sum", tie.best(), setting(1, 0, 0));
        PrivacyLattice sum = withRows(values(0, 0, 0), values(8, 0, 0), values(0, 1, 0));
        sum.demand(2, 1, 1);
        Check.due("10: the lesser number is finest", sum.finestAt(0), setting(4, 0, 0));
        Check.due("10: the greater number has the lesser sum", sum.best(), setting(0, 1, 0));
        PrivacyLattice third = withRows(values(0, 0, 0), values(0, 2, 0), values(0, 0, 1));
        third.demand(2, 1, 1);
        Check.due("10: sum 1 at 25, sum 2 at 10", third.best(), setting(0, 0, 1));
        PrivacyLattice weight = withRows(values(0, 0, 0), values(1, 0, 0), values(0, 0, 8));
        weight.demand(2, 1, 1);
        Check.due("10: sum 1 at 1, sum 4 at 100", weight.best(), setting(1, 0, 0));
        PrivacyLattice last = withRows(values(7, 7, 7), values(8, 8, 8));
        Check.due("10: the greatest sum", last.best(), 124);
        last.drop();
        Check.due("10: none is good", last.best(), NONE);
    }

    private static void groups() {
        PrivacyLattice x = new PrivacyLattice();
        for (int i = 0; i < 16; i++) {
            x.row(values(i, 15 - i, 0), i % 8);
        }
        int[] due = {16, 8, 4, 2, 1};
        for (int level = 0; level <= 4; level++) {
            Check.due("11: attribute 0 at level " + level, x.groups(setting(level, 4, 0)), due[level]);
            Check.due("11: attribute 1 at level " + level, x.groups(setting(4, level, 0)), due[level]);
        }
        Check.due("11: attribute 1 tells all apart", x.groups(setting(4, 0, 0)), 16);
        PrivacyLattice y = withRows(values(0, 0, 3), values(0, 0, 9), values(0, 0, 3), values(0, 0, 8), values(0, 0, 3));
        Check.due("11: rows of a group needn't stand together", y.groups(0), 3);
        Check.due("11: attribute 2 at level 1", y.groups(setting(0, 0, 1)), 2);
        Check.due("11: attribute 2 at level 3", y.groups(setting(0, 0, 3)), 2);
        Check.due("11: attribute 2 at level 4", y.groups(setting(0, 0, 4)), 1);
        y.demand(8, 8, 0);
        Check.due("11: groups that aren't hidden enough count", y.groups(0), 3);
    }

    private static void lookAlike() {
        PrivacyLattice x = withRows(values(4, 0, 0), values(5, 0, 0), values(6, 0, 0), values(4, 0, 0));
        Check.due("12: itself and one more", x.lookAlike(0, 0), 2);
        Check.due("12: itself alone", x.lookAlike(0, 1), 1);
        Check.due("12: the last row", x.lookAlike(0, 3), 2);
        Check.due("12: level 1", x.lookAlike(setting(1, 0, 0), 1), 3);
        Check.due("12: level 2", x.lookAlike(setting(2, 0, 0), 2), 4);
        for (int r : new int[] {4, 5, 15, 16, 17, -1, Integer.MIN_VALUE, Integer.MAX_VALUE}) {
            Check.due("12: row " + r, x.lookAlike(0, r), BAD_ROW);
            Check.due("12: the setting is tested first, row " + r, x.lookAlike(125, r), BAD_SETTING);
        }
        PrivacyLattice y = new PrivacyLattice();
        y.row(0, 1);
        y.row(0, 2);
        Check.due("12: secrets don't count", y.lookAlike(0, 0), 2);
    }

    private static void badSettings() {
        PrivacyLattice empty = new PrivacyLattice();
        PrivacyLattice x = withRows(0, 0);
        for (int setting : BAD_SETTINGS) {
            Check.due("5: leftOut(" + setting + ")", x.leftOut(setting), BAD_SETTING);
            Check.due("6: good(" + setting + ")", x.good(setting), false);
            Check.due("11: groups(" + setting + ")", x.groups(setting), BAD_SETTING);
            Check.due("12: lookAlike(" + setting + ", 0)", x.lookAlike(setting, 0), BAD_SETTING);
            Check.due("5: no rows, leftOut(" + setting + ")", empty.leftOut(setting), BAD_SETTING);
            Check.due("6: no rows, good(" + setting + ")", empty.good(setting), false);
            Check.due("11: no rows, groups(" + setting + ")", empty.groups(setting), BAD_SETTING);
            Check.due("12: no rows, lookAlike(" + setting + ", 0)", empty.lookAlike(setting, 0), BAD_SETTING);
        }
        for (int setting : new int[] {0, 124}) {
            Check.due("5: leftOut(" + setting + ")", x.leftOut(setting), 0);
            Check.due("6: good(" + setting + ")", x.good(setting), true);
            Check.due("11: groups(" + setting + ")", x.groups(setting), 1);
            Check.due("12: lookAlike(" + setting + ", 0)", x.lookAlike(setting, 0), 2);
        }
    }

    private static void queriesChangeNothing() {
        PrivacyLattice x = withRows(values(0, 0, 0), values(8, 0, 0), values(0, 1, 0));
        x.demand(2, 1, 1);
        for (int round = 0; round < 3; round++) {
            Check.due("5 to 12: leftOut", x.leftOut(0), 3);
            Check.due("5 to 12: good", x.good(4), true);
            Check.due("5 to 12: goodSettings", x.goodSettings(), 105);
            Check.due("5 to 12: finest", x.finest(), 2);
            Check.due("5 to 12: finestAt", x.finestAt(1), 5);
            Check.due("5 to 12: best", x.best(), 5);
            Check.due("5 to 12: groups", x.groups(4), 2);
            Check.due("5 to 12: lookAlike", x.lookAlike(4, 1), 2);
            Check.due("5 to 12: lookAlike of no row", x.lookAlike(4, 3), BAD_ROW);
        }
        Check.due("5 to 12: the next row's number", x.row(0, 0), 3);
    }

    private static void the512thCall() {
        PrivacyLattice x = new PrivacyLattice();
        for (int call = 1; call <= 511; call += 2) {
            Check.due("call " + call + ", row", x.row(call, call & 7), 0);
            Check.due("call " + (call + 1) + ", drop", x.drop(), 0);
        }
    }
}
