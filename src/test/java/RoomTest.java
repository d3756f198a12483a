import java.lang.management.ManagementFactory;

/** All calls of a run live in one room: an object is small, and no call makes anything more. */
public final class RoomTest {
    private static final com.sun.management.ThreadMXBean BEAN =
        (com.sun.management.ThreadMXBean) ManagementFactory.getThreadMXBean();
    private static final long GREATEST_OBJECT = 100_000;
    private static final int ROUNDS = 200;
    /** Less than the smallest object once a round, more than the machine may need for itself. */
    private static final long SLACK = 2_000;

    private RoomTest() {
    }

    private static long made() {
        return BEAN.getThreadAllocatedBytes(Thread.currentThread().getId());
    }

    private static void feed(NamesInMelt x, int[] bytes, int length) {
        x.end(0);
        for (int i = 0; i < bytes.length; i += 5) {
            x.feed(bytes[i], bytes[i + 1], bytes[i + 2], bytes[i + 3], bytes[i + 4]);
        }
        x.end(length);
    }

    private static int[] pack(String text) {
        int[] out = new int[(text.length() + 19) / 20 * 5];
        for (int i = 0; i < text.length(); i++) {
            out[i / 4] |= text.charAt(i) << 24 - 8 * (i % 4);
        }
        return out;
    }

    private static void callAll(NamesInMelt x, int[] good, int goodLength, int[] bad, int badLength) {
        feed(x, bad, badLength);
        x.text();
        feed(x, good, goodLength);
        x.text();
        x.by(0);
        x.name(12345, 4);
        x.family(9, 5);
        x.eddy(2, true);
        x.stone(4, true);
        x.call(0);
        x.played(0);
        x.hour(60);
        x.springs(77, 40);
        x.sink(0);
        x.stand(0, 3);
        x.undo();
        x.wants(0, 0, 4);
        x.favours(0, 0, 4);
        x.give(0, 0);
        x.half(12);
        x.half(345);
        x.said(0, 3);
        x.quota(20);
        x.image();
        x.back();
    }

    private static long askAll(NamesInMelt x) {
        return x.foretold(60, 0, 0) + x.stable(0, true) + x.stable(0, false) + x.stables() + x.rests() + x.gladdest(0)
            + x.whole(0, 0, 9, true) + x.clear(0, 0, 9, 8) + x.joins(-1) + x.joins(0) + x.layers(1) + x.rhyme(0, 0)
            + x.kindred(0) + x.power(0, true) + x.dummies() + x.veto() + x.coalitions() + x.whose() + x.richest()
            + x.next() + x.frozen() + x.ledger(0) + x.about(4) + x.of(0, 4) + x.ofFamily(0, 2) + x.law(0, 0, 2)
            + x.is(3) + x.book(0, 0) + x.fault(1);
    }

    public static void main(String[] args) {
        String goodText = "melts if not ice 0=1 or hour>3 then digit 0 of sounds else -2 end;breaks cell+1;"
            + "claims net*2-size;name 12 in 3;family 4 at 5;call 1;lay 3;hour 9;take 3;stand 1 at 2;hour 60;sink 1;";
        String badText = "melts (hour+warm*(size-1); claims 99999999;";
        int[] good = pack(goodText);
        int[] bad = pack(badText);
        // The first object and the first calls load classes too, and reading the count may make something once.
        NamesInMelt x = new NamesInMelt();
        long start = made();
        x = new NamesInMelt();
        long object = made() - start;
        callAll(x, good, goodText.length(), bad, badText.length());
        askAll(x);
        start = made();
        long sum = 0;
        for (int i = 0; i < ROUNDS; i++) {
            callAll(x, good, goodText.length(), bad, badText.length());
            sum += askAll(x);
        }
        long calls = made() - start;
        start = made();
        long reading = made() - start;
        calls -= reading;
        System.out.println("an object takes " + object + " bytes, calls take " + calls + " (" + sum + ")");
        if (object > GREATEST_OBJECT || calls > SLACK) {
            System.exit(1);
        }
    }
}
