import java.util.ArrayList;
import java.util.List;
import java.util.function.Function;
import java.util.function.Supplier;

/** Looks whether a call changed an object, by asking its twin that never got the call the same things. */
final class Probe {
    private final PrivacyLattice x;
    private final List<String> told = new ArrayList<>();

    private Probe(PrivacyLattice x) {
        this.x = x;
    }

    /** The call answers what is due, and afterwards the object answers as if the call had not been. */
    static void changesNothing(String name, Supplier<PrivacyLattice> table,
            Function<PrivacyLattice, Object> call, Object want) {
        // An object is good for 512 calls, so each kind of question gets one of its own.
        List<Function<PrivacyLattice, List<String>>> questions =
                List.of(Probe::tellSettings, Probe::tellRows, Probe::tellDemand);
        for (Function<PrivacyLattice, List<String>> question : questions) {
            PrivacyLattice called = table.get();
            Check.due(name, call.apply(called), want);
            sameTold(name, question.apply(called), question.apply(table.get()));
        }
    }

    private static void sameTold(String name, List<String> called, List<String> twin) {
        // Of lists that differ in length one line ahead of the shorter one's end differs too.
        for (int i = 0; i < twin.size() && i < called.size(); i++) {
            if (!called.get(i).equals(twin.get(i))) {
                // All that follows on a changed object differs as well: one line is enough.
                Check.due("after " + name, called.get(i), twin.get(i));
                return;
            }
        }
    }

    private void tell(String call, Object answer) {
        told.add(call + " = " + answer);
    }

    /** What the calls that change nothing answer: 3 * 125 + 8 + 2 * 18 calls. */
    private static List<String> tellSettings(PrivacyLattice x) {
        Probe probe = new Probe(x);
        for (int setting = 0; setting < 125; setting++) {
            probe.tell("leftOut(" + setting + ")", x.leftOut(setting));
            probe.tell("good(" + setting + ")", x.good(setting));
            probe.tell("groups(" + setting + ")", x.groups(setting));
        }
        probe.tell("goodSettings()", x.goodSettings());
        probe.tell("finest()", x.finest());
        for (int i = 0; i < 5; i++) {
            probe.tell("finestAt(" + i + ")", x.finestAt(i));
        }
        probe.tell("best()", x.best());
        for (int r = -1; r <= 16; r++) {
            probe.tell("lookAlike(0, " + r + ")", x.lookAlike(0, r));
            probe.tell("lookAlike(31, " + r + ")", x.lookAlike(31, r));
        }
        return probe.told;
    }

    /** The rows' values, seen beside a known row, and their secrets: 8 * 4 + 1 + 17 * 14 calls. */
    private static List<String> tellRows(PrivacyLattice x) {
        Probe probe = new Probe(x);
        for (int l = 1; l <= 8; l++) {
            probe.tell("demand(1, " + l + ", 0)", x.demand(1, l, 0));
            for (int setting = 0; setting <= 124; setting += 62) {
                probe.tell("leftOut(" + setting + ") with L = " + l, x.leftOut(setting));
            }
        }
        x.demand(1, 2, 0);
        for (int i = 0; i < 17; i++) {
            probe.dropOne();
            int known = x.row(0x123, 0);
            probe.tell("row(0x123, 0)", known);
            for (int setting = 0; setting <= 124; setting += 31) {
                probe.tell("lookAlike(" + setting + ", " + known + ")", x.lookAlike(setting, known));
                probe.tell("leftOut(" + setting + ")", x.leftOut(setting));
            }
            x.drop();
        }
        return probe.told;
    }

    /** K, L and S as far as any run of calls can show them: 3 * 32 + 40 * 3 calls. */
    private static List<String> tellDemand(PrivacyLattice x) {
        Probe probe = new Probe(x);
        probe.dropAll();
        for (int i = 0; i < 8; i++) {
            probe.addAndTell("one group of all secrets", 0, i);
        }
        probe.dropAll();
        for (int i = 0; i < 16; i++) {
            probe.addAndTell("one group, eight rows of secret 0 first", 0, i < 8 ? 0 : i - 8);
        }
        probe.dropAll();
        for (int i = 0; i < 16; i++) {
            probe.addAndTell("rows apart", i, 0);
        }
        return probe.told;
    }

    /** Asks first: a drop that is refused might do to the twin what the call that is looked at did. */
    private void dropOne() {
        boolean some = x.lookAlike(0, 0) != PrivacyLattice.BAD_ROW;
        tell("a row is there", some);
        if (some) {
            tell("drop()", x.drop());
        }
    }

    private void dropAll() {
        for (int i = 0; i < 16; i++) {
            dropOne();
        }
    }

    private void addAndTell(String rows, int values, int secret) {
        int number = x.row(values, secret);
        tell(rows + ", row " + number + ": leftOut(0)", x.leftOut(0));
        tell(rows + ", row " + number + ": good(0)", x.good(0));
    }
}
