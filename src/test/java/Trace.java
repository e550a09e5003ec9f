import java.util.ArrayList;
import java.util.List;

/** All that can be seen of an object by its answers, in a row; what must be changed to be seen comes last. */
final class Trace {
    /** Its bytes are all unlike, so that a number cut to a sort tells which. */
    private static final long TELLING = 0x0123456789abcdefL;

    private final TollsBack x;
    private final List<String> seen = new ArrayList<>();

    private Trace(TollsBack x) {
        this.x = x;
    }

    static List<String> of(TollsBack x) {
        Trace t = new Trace(x);
        t.kingdom();
        t.travellers();
        t.treasury();
        t.rows();
        t.spoilRows();
        t.spoilTape();
        t.spoilAll();
        return t.seen;
    }

    private void note(String call, long answer) {
        seen.add(call + " = " + answer);
    }

    private void kingdom() {
        for (int what = 0; what < 9; what++) {
            note("count(" + what + ")", x.count(what));
        }
        note("fault(0)", x.fault(0));
        note("fault(1)", x.fault(1));
        for (int r = 0; r < x.count(1); r++) {
            for (int what = r < 4 ? 0 : 5; what < 6; what++) {
                note("road(" + r + ", " + what + ")", x.road(r, what));
            }
        }
        note("summer(89)", x.summer(89));
        note("summer(90)", x.summer(90));
    }

    private void travellers() {
        for (int i = 0; i < x.count(2); i++) {
            for (int what = 0; what < 6; what++) {
                note("of(" + i + ", " + what + ")", x.of(i, what));
            }
            for (int k = 0; k < x.of(i, 3); k++) {
                slip(i, k, 0);
                slip(i, k, 3);
                slip(i, k, 4);
            }
            slip(i, x.of(i, 3) - 1, 2);
        }
    }

    private void slip(int i, int k, int what) {
        note("slip(" + i + ", " + k + ", " + what + ")", x.slip(i, k, what));
    }

    private void treasury() {
        for (int what = 0; what < 3; what++) {
            note("treasury(" + what + ")", x.treasury(what));
        }
        note("lapse()", x.lapse());
        int[] days = {0, 1, 2, 3, 5, 8, 13, 90, 360, 719};
        for (int k = 0; k + 1 < days.length; k++) {
            note("ledger(" + days[k] + ", " + (days[k + 1] - 1) + ")", x.ledger(days[k], days[k + 1] - 1));
        }
        note("ledger(719, 719)", x.ledger(719, 719));
    }

    private void rows() {
        for (int row = 0; row < 4; row++) {
            note("forged(" + row + ")", x.forged(row));
            for (int what = 0; what < 7; what++) {
                note("judge(0, " + row + ", " + what + ")", x.judge(0, row, what));
            }
        }
    }

    private void spoilRows() {
        for (int row = 0; row < 4; row++) {
            for (int place : new int[] {0, 1, 2, 3, 39}) {
                note("write(" + row + ", " + place + ")", x.write(row, place, TELLING));
            }
        }
    }

    private void spoilTape() {
        note("kingdom of all that is on THE TAPE", x.kingdom(x.count(7)));
        note("fault(0) then", x.fault(0));
        note("fault(1) then", x.fault(1));
        note("count(4) then", x.count(4));
        note("count(5) then", x.count(5));
    }

    private void spoilAll() {
        for (int i = 0; i < 2; i++) {
            note("restore(" + i + ")", x.restore(i));
            for (int what = 0; what < 9; what++) {
                note("count(" + what + ") restored", x.count(what));
            }
            note("treasury(0) restored", x.treasury(0));
            note("of(0, 2) restored", x.of(0, 2));
        }
    }
}
