import java.util.ArrayList;
import java.util.List;

/** The boundary cases that "What it is" and "Terms" name, one test for each of their sentences. */
public final class TermsEdgesTest {
    private static final int CALLS_OF_AN_OBJECT = 512;

    public static void main(String[] args) {
        atMost512CallsOfEveryKind();
        atMost512CallsThatAreRefused();
        atMost512CallsOfEachObject();
        laterCallsEnd();
        upToSixteenRows();
        attributesAreNumbers0To15();
        secretsAre0To7();
        shownAtALevel();
        atLevel4Always0();
        settingsAreNamedByTheirLevels();
        alikeIfAllThreeAreShownTheSame();
        atLeastKRows();
        atLeastLDifferentSecrets();
        hiddenEnoughNeedsBoth();
        atMostSRows();
        coarserNeedsAGreaterLevel();
        coarserHasNoSmallerLevel();
        Check.finish();
    }

    private static void atMost512CallsOfEveryKind() {
        PrivacyLattice x = Tables.sixteenApart(0);
        Check.due("call 17: demand(8, 8, 0)", x.demand(8, 8, 0), 0);
        for (int call = 18; call < CALLS_OF_AN_OBJECT - 8; call++) {
            int setting = call % 125;
            boolean good = setting % 5 >= 3;
            String at = "call " + call + ", setting " + setting;
            switch (call % 4) {
                case 0 -> Check.due(at + ", leftOut", x.leftOut(setting), good ? 0 : 16);
                case 1 -> Check.due(at + ", good", x.good(setting), good);
                case 2 -> Check.due(at + ", groups", x.groups(setting), 16 >> (setting % 5));
                default -> Check.due(at + ", lookAlike", x.lookAlike(setting, 15), 1 << (setting % 5));
            }
        }
        Check.due("call 504: goodSettings()", x.goodSettings(), 50);
        Check.due("call 505: finest()", x.finest(), 1);
        Check.due("call 506: finestAt(0)", x.finestAt(0), 3);
        Check.due("call 507: best()", x.best(), 3);
        Check.due("call 508: row(0, 0)", x.row(0, 0), PrivacyLattice.FULL);
        Check.due("call 509: drop()", x.drop(), 15);
        Check.due("call 510: row(0, 7)", x.row(0, 7), 15);
        Check.due("call 511: demand(8, 7, 0)", x.demand(8, 7, 0), 0);
        // Seven rows with attribute 0 at 8 to 14 are left, one too few; the other nine rows are enough.
        Check.due("call 512: leftOut(3)", x.leftOut(3), 7);
    }

    private static void atMost512CallsThatAreRefused() {
        PrivacyLattice x = new PrivacyLattice();
        for (int call = 1; call < CALLS_OF_AN_OBJECT; call++) {
            switch (call % 5) {
                case 0 -> Check.due("call " + call + ": drop()", x.drop(), PrivacyLattice.BAD_ROW);
                case 1 -> Check.due("call " + call + ": row(0, 8)", x.row(0, 8), PrivacyLattice.BAD_VALUE);
                case 2 -> Check.due("call " + call + ": demand(9, 1, 0)", x.demand(9, 1, 0), PrivacyLattice.BAD_VALUE);
                case 3 -> Check.due("call " + call + ": groups(125)", x.groups(125), PrivacyLattice.BAD_SETTING);
                default -> Check.due("call " + call + ": finestAt(1)", x.finestAt(1), PrivacyLattice.NONE);
            }
        }
        Check.due("call 512: row(0, 0)", x.row(0, 0), 0);
    }

    /** The calls of one object don't count for another one. */
    private static void atMost512CallsOfEachObject() {
        for (int object = 0; object < 3; object++) {
            PrivacyLattice x = new PrivacyLattice();
            for (int call = 1; call < CALLS_OF_AN_OBJECT; call += 2) {
                Check.due("object " + object + ", call " + call + ": row", x.row(call, call & 7), 0);
                Check.due("object " + object + ", call " + (call + 1) + ": drop", x.drop(), 0);
            }
        }
    }

    /** What these answer is free; that they end without throwing isn't. */
    private static void laterCallsEnd() {
        PrivacyLattice x = new PrivacyLattice();
        int[] arguments = {Tables.LEAST, -1, 0, 1, 8, 16, 124, 125, Tables.GREATEST};
        for (int call = 1; call <= 10 * CALLS_OF_AN_OBJECT; call += 11) {
            int a = arguments[call % arguments.length];
            int b = arguments[call / 9 % arguments.length];
            x.row(a, call % 9);
            x.row(b, call % 8);
            x.demand(b, a, b);
            x.leftOut(a);
            x.good(a);
            x.goodSettings();
            x.finest();
            x.finestAt(a);
            x.best();
            x.groups(b);
            x.lookAlike(a, b);
            if (call % 3 == 0) {
                x.drop();
            }
        }
    }

    private static void upToSixteenRows() {
        PrivacyLattice x = new PrivacyLattice();
        for (int i = 0; i < 16; i++) {
            Check.due("sixteen rows: before row " + i, x.lookAlike(0, i), PrivacyLattice.BAD_ROW);
            Check.due("sixteen rows: row " + i, x.row(0, 0), i);
            Check.due("sixteen rows: after row " + i, x.lookAlike(0, i), i + 1);
        }
        Check.due("sixteen rows: no seventeenth", x.row(0, 0), PrivacyLattice.FULL);
        Check.due("sixteen rows: still sixteen", x.lookAlike(0, 0), 16);
        Check.due("sixteen rows: no row 16", x.lookAlike(0, 16), PrivacyLattice.BAD_ROW);
    }

    private static void attributesAreNumbers0To15() {
        for (int attribute = 0; attribute < 3; attribute++) {
            PrivacyLattice x = Tables.sixteenApart(attribute);
            String at = "numbers 0 to 15: attribute " + attribute;
            Check.due(at + " tells sixteen apart", x.groups(0), 16);
            x.drop();
            Check.due(at + ", the next number after 15", x.row(Tables.valuesOf(attribute, 16), 0), 15);
            int others = Tables.setting(4, 4, 4) - Tables.settingOf(attribute, 4);
            Check.due(at + ", the next number is 0 again", x.lookAlike(others, 15), 2);
            Check.due(at + ", the next number looks like row 0", x.lookAlike(others, 0), 2);
        }
    }

    private static void secretsAre0To7() {
        for (int secret = 0; secret <= 7; secret++) {
            for (int other = 0; other <= 7; other++) {
                PrivacyLattice x = new PrivacyLattice();
                Check.due("secrets 0 to 7: " + secret, x.row(0, secret), 0);
                Check.due("secrets 0 to 7: " + other, x.row(0, other), 1);
                Check.due("secrets 0 to 7: demand", x.demand(1, 2, 0), 0);
                Check.due("secrets 0 to 7: " + secret + " and " + other + " differ",
                        x.leftOut(0), secret == other ? 2 : 0);
            }
        }
        for (int secret : new int[] {-1, 8, Tables.LEAST, Tables.GREATEST}) {
            Check.due("secrets 0 to 7: " + secret, new PrivacyLattice().row(0, secret), PrivacyLattice.BAD_VALUE);
        }
    }

    /** All pairs of numbers at all levels, so each number just below and at a multiple of 2, 4 and 8. */
    private static void shownAtALevel() {
        int[] divisors = {1, 2, 4, 8, 16};
        for (int attribute = 0; attribute < 3; attribute++) {
            for (int pair = 0; pair < 256; pair++) {
                int a = pair % 16;
                int b = pair / 16;
                PrivacyLattice x = Tables.withRows(Tables.valuesOf(attribute, a), Tables.valuesOf(attribute, b));
                for (int level = 0; level <= 4; level++) {
                    boolean alike = a / divisors[level] == b / divisors[level];
                    Check.due("rounded down: attribute " + attribute + " of " + a + " and " + b + " at level " + level,
                            x.lookAlike(Tables.settingOf(attribute, level), 0), alike ? 2 : 1);
                }
            }
        }
    }

    private static void atLevel4Always0() {
        for (int attribute = 0; attribute < 3; attribute++) {
            PrivacyLattice x = Tables.sixteenApart(attribute);
            int hidden = Tables.settingOf(attribute, 4);
            Check.due("at level 4 always 0: attribute " + attribute, x.groups(hidden), 1);
            Check.due("at level 4 always 0: row 15, attribute " + attribute, x.lookAlike(hidden, 15), 16);
            int justFiner = Tables.settingOf(attribute, 3);
            Check.due("at level 3 not yet: attribute " + attribute, x.groups(justFiner), 2);
        }
    }

    /** Two rows that differ in one attribute by one bit look alike just above that bit's level. */
    private static void settingsAreNamedByTheirLevels() {
        for (int attribute = 0; attribute < 3; attribute++) {
            for (int bit = 0; bit < 4; bit++) {
                PrivacyLattice x = Tables.withRows(0, Tables.valuesOf(attribute, 1 << bit));
                for (int setting = 0; setting <= 124; setting++) {
                    int level = new int[] {setting % 5, setting / 5 % 5, setting / 25}[attribute];
                    Check.due("settings 0 to 124: attribute " + attribute + ", bit " + bit + ", setting " + setting,
                            x.groups(setting), level > bit ? 1 : 2);
                }
            }
        }
    }

    private static void alikeIfAllThreeAreShownTheSame() {
        for (int attribute = 0; attribute < 3; attribute++) {
            PrivacyLattice x = Tables.withRows(0x777, 0x777, 0x777 ^ Tables.valuesOf(attribute, 15));
            int othersHidden = Tables.setting(4, 4, 4) - Tables.settingOf(attribute, 1);
            Check.due("look alike: one of three differs, attribute " + attribute, x.lookAlike(othersHidden, 2), 1);
            Check.due("look alike: the other two rows, attribute " + attribute, x.lookAlike(othersHidden, 0), 2);
            Check.due("look alike: none differs, attribute " + attribute, x.lookAlike(124, 2), 3);
        }
    }

    private static void atLeastKRows() {
        for (int k = 1; k <= 8; k++) {
            PrivacyLattice x = new PrivacyLattice();
            Check.due("at least K rows: K = " + k, x.demand(k, 1, 0), 0);
            for (int rows = 1; rows <= 16; rows++) {
                Check.due("at least K rows: row", x.row(0, 0), rows - 1);
                Check.due("at least K rows: K = " + k + ", " + rows + " rows", x.leftOut(0), rows < k ? rows : 0);
            }
        }
    }

    private static void atLeastLDifferentSecrets() {
        for (int l = 1; l <= 8; l++) {
            PrivacyLattice x = new PrivacyLattice();
            Check.due("at least L secrets: L = " + l, x.demand(1, l, 0), 0);
            for (int rows = 1; rows <= 16; rows++) {
                // Each secret comes twice: rows enough don't stand in for secrets.
                int different = (rows + 1) / 2;
                Check.due("at least L secrets: row", x.row(0, 7 - (rows - 1) / 2), rows - 1);
                Check.due("at least L secrets: L = " + l + ", " + different + " in " + rows + " rows",
                        x.leftOut(0), different < l ? rows : 0);
            }
        }
    }

    private static void hiddenEnoughNeedsBoth() {
        PrivacyLattice x = new PrivacyLattice();
        Check.due("both: demand", x.demand(3, 2, 0), 0);
        x.row(0, 0);
        x.row(0, 1);
        Check.due("both: secrets enough, rows one too few", x.leftOut(0), 2);
        x.row(0, 1);
        Check.due("both: rows and secrets just enough", x.leftOut(0), 0);
        x.drop();
        x.drop();
        x.row(0, 0);
        x.row(0, 0);
        Check.due("both: rows enough, secrets one too few", x.leftOut(0), 3);
        x.row(1, 1);
        Check.due("both: a secret of another group doesn't count", x.leftOut(0), 4);
        Check.due("both: it does where the groups are one", x.leftOut(1), 0);
    }

    private static void atMostSRows() {
        for (int s = 0; s <= 16; s++) {
            PrivacyLattice x = new PrivacyLattice();
            Check.due("at most S rows: S = " + s, x.demand(2, 1, s), 0);
            Check.due("at most S rows: S = " + s + ", none", x.good(0), true);
            for (int rows = 1; rows <= 16; rows++) {
                Check.due("at most S rows: row", x.row(rows - 1, 0), rows - 1);
                Check.due("at most S rows: left out", x.leftOut(0), rows);
                Check.due("at most S rows: S = " + s + ", " + rows + " left out", x.good(0), rows <= s);
            }
        }
    }

    /** A setting isn't coarser than itself, and one level more of one attribute is enough to be coarser. */
    private static void coarserNeedsAGreaterLevel() {
        for (int setting = 0; setting <= 124; setting++) {
            int[] levels = {setting % 5, setting / 5 % 5, setting / 25};
            int differing = 0;
            for (int attribute = 0; attribute < 3; attribute++) {
                // The bit that is hidden at this level and not at the one below.
                differing |= Tables.valuesOf(attribute, levels[attribute] == 0 ? 0 : 1 << (levels[attribute] - 1));
            }
            PrivacyLattice x = Tables.withRows(0, differing);
            Check.due("coarser: good from " + setting + " on", x.goodSettings(),
                    (5 - levels[0]) * (5 - levels[1]) * (5 - levels[2]));
            Check.due("coarser: finest of all from " + setting + " on", x.finest(), 1);
            Check.due("coarser: finestAt(0) of all from " + setting + " on", x.finestAt(0), setting);
            Check.due("coarser: finestAt(1) of all from " + setting + " on", x.finestAt(1), PrivacyLattice.NONE);
        }
    }

    /**
     * Eight pairs of rows, each in a corner of its own; a setting is good if it joins a pair, or two rows of different
     * corners, which needs level 4. The levels that join the pairs have the same sum, so none is coarser than another.
     */
    private static void coarserHasNoSmallerLevel() {
        int[][] joins = {{3, 1, 0}, {2, 2, 0}, {1, 3, 0}, {3, 0, 1}, {1, 1, 2}, {0, 3, 1}, {2, 0, 2}, {0, 1, 3}};
        PrivacyLattice x = new PrivacyLattice();
        List<Integer> due = new ArrayList<>(List.of(
                Tables.setting(4, 0, 0), Tables.setting(0, 4, 0), Tables.setting(0, 0, 4)));
        for (int pair = 0; pair < 8; pair++) {
            int corner = Tables.values(pair % 2 * 8, pair / 2 % 2 * 8, pair / 4 * 8);
            int[] levels = joins[pair];
            Check.due("coarser: first of a pair", x.row(corner, 0), 2 * pair);
            Check.due("coarser: second of a pair", x.row(corner + Tables.values(
                    (1 << levels[0]) / 2, (1 << levels[1]) / 2, (1 << levels[2]) / 2), 0), 2 * pair + 1);
            due.add(Tables.setting(levels[0], levels[1], levels[2]));
        }
        due.sort(null);
        Check.due("coarser: demand", x.demand(2, 1, 14), 0);
        Check.due("coarser: none of eleven is coarser than another", x.finest(), 11);
        for (int i = 0; i < 11; i++) {
            Check.due("coarser: the eleven, " + i, x.finestAt(i), due.get(i));
        }
        Check.due("coarser: no twelfth", x.finestAt(11), PrivacyLattice.NONE);
        Check.due("coarser: the least number of the same sum", x.best(), Tables.setting(4, 0, 0));
    }
}
