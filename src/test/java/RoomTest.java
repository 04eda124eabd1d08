import com.sun.management.ThreadMXBean;
import java.lang.management.ManagementFactory;

/** All calls of a run share one room, so calls make no objects but the eight past shows; and none of them takes long. */
public final class RoomTest {
    private static final Checks CHECKS = new Checks("RoomTest");
    private static final ThreadMXBean BEAN = (ThreadMXBean) ManagementFactory.getThreadMXBean();
    private static final int[] LIVE = {0x6c697665, 0x3b616c6c, 0x40353b20, 0x73617665, 0x20202020};

    public static void main(String[] args) {
        LightDesk desk = Checks.desk("patch 1 roller at 1; patch 2 spot at 5; patch 3 warm at 50; wave 1 = saw roll size 500 rate 7 spread 9 on 1;",
            "all @ 500; record 1 up 5 follow 3; all home; record 2 follow 4 link 1; clear; event 1 = 50 cue 2;");
        for (int i = 0; i < 20; i++) {
            callAll(desk);
            BEAN.getCurrentThreadAllocatedBytes();
        }
        long before = BEAN.getCurrentThreadAllocatedBytes();
        for (int i = 0; i < 50; i++) {
            callAll(desk);
        }
        // One object in each round would make more than this.
        long bytes = BEAN.getCurrentThreadAllocatedBytes() - before;
        CHECKS.same("50 rounds of calls make nothing, " + bytes, bytes < 50 * 16, true);
        before = BEAN.getCurrentThreadAllocatedBytes();
        LightDesk fresh = new LightDesk();
        long made = BEAN.getCurrentThreadAllocatedBytes() - before;
        CHECKS.same("a new object is small: " + made, made < 400000, true);
        CHECKS.same("it is one", fresh.state(0), 0);
        CHECKS.finish();
    }

    private static int callAll(LightDesk desk) {
        int sum = desk.feed(LIVE[0], LIVE[1], LIVE[2], LIVE[3], LIVE[4]) + desk.end(12) + desk.enter() + desk.fault(0) + desk.tape(0);
        sum += desk.go() + desk.advance(100) + desk.back() + desk.jump(2) + desk.fader(1, 5) + desk.bump(1, true) + desk.grand(999) + desk.run(1, true);
        sum += (desk.hold(false) ? 1 : 0) + (desk.black(false) ? 1 : 0);
        for (int k = 1; k < 60; k++) {
            sum += desk.slot(k) + desk.park(k);
        }
        for (int unit = 1; unit <= 3; unit++) {
            for (int what = 0; what < 9; what++) {
                sum += desk.level(unit, what) + desk.held(unit, what) + desk.unit(unit, what) + desk.cue(unit, what) + desk.tracked(2, unit, what);
                sum += desk.origin(2, unit, what) + desk.change(2, unit, what) + desk.group(unit, what) + desk.palette(unit, what) + desk.wave(unit, what);
                sum += desk.state(what) + desk.event(unit, what) + desk.sub(unit, what) + desk.masters(unit) + desk.shown(unit);
            }
        }
        sum += desk.save() + desk.end(0);
        return sum + (sum % 2 == 0 ? desk.undo() : 0);
    }
}
