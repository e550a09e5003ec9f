/** Promise 1: a new object has no KINGDOM and no TRAVELLERS. */
public final class NewObjectTest {
    public static void main(String[] args) {
        Check c = new Check("NewObjectTest");
        TollsBack x = new TollsBack();
        int[] counts = {0, 0, 0, TollsBack.NONE, 360, 50, 0, 0, 0};
        for (int what = 0; what < counts.length; what++) {
            c.due("count(" + what + ")", x.count(what), counts[what]);
        }
        c.due("NONE", TollsBack.NONE, -1);
        c.due("fault(0)", x.fault(0), 0);
        c.due("fault(1)", x.fault(1), -1);
        c.due("road(0, 0)", x.road(0, 0), -2);
        c.due("from(0)", x.from(0), -2);
        c.due("close(0, true)", x.close(0, true), -2);
        c.due("when(0, -1)", x.when(0, -1), -2);
        c.due("comes(-1)", x.comes(-1), -5);
        c.due("of(0, 0)", x.of(0, 0), -2);
        c.due("treasury(0)", x.treasury(0), 0);
        c.due("treasury(1)", x.treasury(1), 0);
        c.due("treasury(2)", x.treasury(2), 0);
        c.due("owes(0)", x.owes(0), 0);
        c.due("lapse()", x.lapse(), -1);
        c.due("lane(0, 0, 0, 0)", x.lane(0, 0, 0, 0), -2);
        c.due("box(1)", x.box(1), -5);
        c.due("cutOff(0)", x.cutOff(0), -2);
        c.due("ledger(0, 719)", x.ledger(0, 719), 0);
        c.due("forged(4)", x.forged(4), -2);
        c.due("forged(0)", x.forged(0), -5);
        c.due("journeys(0, 0)", x.journeys(0, 0), -5);
        c.due("journey(0, 0, 0, 0)", x.journey(0, 0, 0, 0), -5);
        for (int row = 0; row < 4; row++) {
            c.due("write(" + row + ", 0, 0)", x.write(row, 0, 0), -6);
        }
        c.due("restore(0)", x.restore(0), -5);
        c.due("restore(1)", x.restore(1), -5);
        c.end();
    }
}
