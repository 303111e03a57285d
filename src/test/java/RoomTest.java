import com.sun.management.ThreadMXBean;
import java.lang.management.ManagementFactory;

/** All calls of a run live in one room: a call that answers makes nothing, an object is small. */
public final class RoomTest {
    private static final ThreadMXBean THREADS = (ThreadMXBean) ManagementFactory.getThreadMXBean();
    private static final Check CHECK = new Check();
    private static final int CALLS = 3000;
    private static final int ROW = 244140624;

    private RoomTest() {
    }

    private static long bytesSoFar() {
        return THREADS.getThreadAllocatedBytes(Thread.currentThread().getId());
    }

    private static KnockBook full() {
        return Check.told("thing k 0;thing p 1;thing r 2;thing s 3;thing kkkkkk 4;deed kp 5;deed kr 6;deed ks 7;"
            + "deed pk 8;pine kprs;oak kp;felt kprs;glass kprs;pine k;oak s;joins not same or left+right*2<first-next/3;");
    }

    /** Every call that answers, once; the tape's ';' is a FAULT, which leaves all as it was. */
    private static long callAll(KnockBook x) {
        long sum = x.feed(0x3b202020, 0, 0, 0, 0) + x.book(1) + x.fault() + x.word(0, 4) + x.door(0, 4);
        sum += x.count(3) + x.hears(3, ROW) + x.read(ROW, 0) + x.reading(ROW, 0) + x.apart(ROW, ROW) + x.nearest(ROW, 0);
        sum += x.take(13, 0, 1) + x.worth(0, 1) + x.part(0, 1) + (x.rain(0, true) ? 1 : 0) + x.die(9) + x.undo();
        sum += x.mend(ROW) + x.twoWays() + x.prefixes() + x.tellApart() + x.newWord(1) + x.span(0, 1) + x.closest(1);
        sum += x.said(12) + x.howMany(12) + x.hear(0, ROW) + x.which() + x.listen(0);
        x.forget();
        sum += x.telegraph(0, 1) + x.game(0, 1, 0) + x.frost(1, 60, 0);
        x.image();
        sum += x.restore() ? 1 : 0;
        while (x.undo() >= 0) {
            sum++;
        }
        return sum;
    }

    public static void main(String[] args) {
        KnockBook x = full();
        callAllOn(x, 3);
        long before = bytesSoFar();
        callAllOn(x, CALLS);
        long made = bytesSoFar() - before;
        CHECK.due("no bytes by " + CALLS + " rounds, but " + made, true, () -> made < CALLS);

        KnockBook[] many = new KnockBook[100];
        long start = bytesSoFar();
        for (int i = 0; i < many.length; i++) {
            many[i] = new KnockBook();
        }
        long each = (bytesSoFar() - start) / many.length;
        CHECK.due("an object of " + each + " bytes", true, () -> each < 20000);
        CHECK.end();
    }

    private static void callAllOn(KnockBook x, int rounds) {
        for (int i = 0; i < rounds; i++) {
            callAll(x);
        }
    }
}
