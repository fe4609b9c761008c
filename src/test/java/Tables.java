import java.util.LinkedHashMap;
import java.util.Map;
import java.util.function.Supplier;

/** Numbers and tables that several tests use. */
final class Tables {
    static final int LEAST = Integer.MIN_VALUE;
    static final int GREATEST = Integer.MAX_VALUE;

    private Tables() {
    }

    static int setting(int level0, int level1, int level2) {
        return level0 + 5 * level1 + 25 * level2;
    }

    static int values(int attribute0, int attribute1, int attribute2) {
        return attribute0 + 16 * attribute1 + 256 * attribute2;
    }

    /** The values of a row with this number as this attribute and 0 as the other two. */
    static int valuesOf(int attribute, int number) {
        return number << (4 * attribute);
    }

    /** The setting with this level for this attribute and level 0 for the other two. */
    static int settingOf(int attribute, int level) {
        return attribute == 0 ? level : attribute == 1 ? 5 * level : 25 * level;
    }

    /** An object with these rows, all with secret 0. */
    static PrivacyLattice withRows(int... values) {
        PrivacyLattice x = new PrivacyLattice();
        for (int i = 0; i < values.length; i++) {
            Check.due("row " + i, x.row(values[i], 0), i);
        }
        return x;
    }

    /** Sixteen rows at setting 0 in one group, two of each secret. */
    static PrivacyLattice sixteenAlike() {
        PrivacyLattice x = new PrivacyLattice();
        for (int i = 0; i < 16; i++) {
            Check.due("row " + i, x.row(0, i / 2), i);
        }
        return x;
    }

    /** Sixteen rows that this attribute alone tells apart, two of each secret. */
    static PrivacyLattice sixteenApart(int attribute) {
        PrivacyLattice x = new PrivacyLattice();
        for (int i = 0; i < 16; i++) {
            Check.due("row " + i, x.row(valuesOf(attribute, i), i % 8), i);
        }
        return x;
    }

    /** Groups of many sizes and secrets, and a demand that differs from a new object's in K, L and S. */
    static PrivacyLattice sixteenMixed() {
        PrivacyLattice x = new PrivacyLattice();
        for (int i = 0; i < 16; i++) {
            Check.due("row " + i, x.row(values(i % 5, i / 3, i / 8 * 9), i * i % 7), i);
        }
        Check.due("demand(4, 3, 5)", x.demand(4, 3, 5), 0);
        return x;
    }

    /** Sixteen rows of seven secrets that can't be eight at any setting, and one row too many to leave out. */
    static PrivacyLattice neverHidden() {
        PrivacyLattice x = new PrivacyLattice();
        for (int i = 0; i < 16; i++) {
            Check.due("row " + i, x.row(i, i % 7), i);
        }
        Check.due("demand(1, 8, 15)", x.demand(1, 8, 15), 0);
        return x;
    }

    static PrivacyLattice oneRow() {
        PrivacyLattice x = withRows(values(1, 2, 3));
        Check.due("demand(8, 8, 16)", x.demand(8, 8, 16), 0);
        return x;
    }

    static PrivacyLattice fifteenRows() {
        PrivacyLattice x = sixteenMixed();
        Check.due("drop()", x.drop(), 15);
        Check.due("demand(3, 1, 1)", x.demand(3, 1, 1), 0);
        return x;
    }

    /** Empty, nearly empty, nearly full and full: where a call that is refused could do harm. */
    static Map<String, Supplier<PrivacyLattice>> states() {
        Map<String, Supplier<PrivacyLattice>> states = new LinkedHashMap<>();
        states.put("no rows", PrivacyLattice::new);
        states.put("one row", Tables::oneRow);
        states.put("fifteen rows", Tables::fifteenRows);
        states.put("sixteen rows", Tables::sixteenMixed);
        states.put("sixteen rows, no setting good", Tables::neverHidden);
        return states;
    }
}
