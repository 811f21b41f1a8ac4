import java.util.Arrays;
import java.util.function.Supplier;
import java.util.function.ToLongFunction;

/** All that an object tells, in parts of so few calls that none comes near the 512th. */
final class Portrait {
    private static final int PARTS = 6;

    private final long[] told = new long[400];
    private int size;

    private Portrait() {
    }

    /** Makes a call that is refused, and compares the object with one in which the call was not made. */
    static void refused(Due due, String call, Supplier<VaseCourt> setup, ToLongFunction<VaseCourt> asked, long want) {
        for (int part = 0; part < PARTS; part++) {
            VaseCourt x = setup.get();
            due.is(call, asked.applyAsLong(x), want);
            long[] with = of(x, part);
            long[] without = of(setup.get(), part);
            due.is(call + " changed answer " + Arrays.mismatch(with, without) + " of part " + part,
                    Arrays.mismatch(with, without), -1);
        }
    }

    private static long[] of(VaseCourt x, int part) {
        Portrait p = new Portrait();
        switch (part) {
            case 0 -> p.papers(x);
            case 1 -> p.histories(x);
            case 2 -> p.laws(x);
            case 3 -> p.waysAndTape(x);
            case 4 -> p.sherdsAndRecords(x);
            default -> p.sheets(x);
        }
        return Arrays.copyOf(p.told, p.size);
    }

    private void add(long answer) {
        told[size] = answer;
        size++;
    }

    private void papers(VaseCourt x) {
        for (int what = 0; what <= 10; what++) add(x.count(what));
        for (int paper = 0; paper < x.count(2); paper++) {
            for (int what = 0; what <= 6; what++) add(x.paperTold(paper, what));
            add(x.fall(paper));
        }
    }

    private void histories(VaseCourt x) {
        int t = x.count(0);
        add(x.histories());
        add(x.question());
        add(x.firstOfTwo());
        for (int period = 0; period < t; period++) {
            for (int land = 0; land < 5; land++) {
                add(x.at(land, period));
                add(x.both(land, period, 1, t - 1));
            }
            add(x.history(0, period));
            add(x.history(5, period));
        }
    }

    private void laws(VaseCourt x) {
        for (int land = 0; land < 5; land++) {
            add(x.given(land));
            add(x.claim(land));
            for (int period = 0; period < x.count(0); period++) {
                add(x.lawOf(land, period));
                add(x.says(land, (land + 1) % 5, period, 0));
            }
        }
        for (int judgement = 0; judgement < x.count(5); judgement++) {
            add(x.changed(judgement));
            for (int land = 0; land < 5; land++) add(x.judged(judgement, land));
        }
    }

    /** A tape that waits for the end of its second part is ended, and its text made a law. */
    private void waysAndTape(VaseCourt x) {
        for (int period = 0; period < x.count(0) - 1; period++) {
            for (int link = 0; link < 20; link++) add(x.says(link % 5, (link + 1 + link / 5) % 5, period, 0));
        }
        add(Due.feedAll(x, " 7 ;"));
        int text = x.text();
        add(text);
        add(x.law(3, 0, text));
        add(x.says(3, 0, 0, 1));
    }

    private void sherdsAndRecords(VaseCourt x) {
        for (int i = -1; i < 8; i++) add(x.row(i));
        for (int a = 0; a < x.count(6); a++) {
            for (int b = 0; b < x.count(6); b++) add(x.joined(a, b));
        }
        add(x.things(-1));
        add(x.things(-2));
        for (int a = 0; a < x.count(7); a++) {
            for (int b = 0; b <= a; b++) {
                for (int what = 0; what <= 2; what++) add(x.same(a, b, what));
            }
        }
        add(x.set(0, 0));
        add(x.set(1, 1));
    }

    /** What lies in the sheets is read as papers; how long they are is told by where a cell is outside. */
    private void sheets(VaseCourt x) {
        for (int sheet = 0; sheet < 4; sheet++) {
            for (int sort = 0; sort < 3; sort++) {
                for (int from = 0; from < 15; from += 5) add(x.papers(sheet, sort, from, 1));
            }
            for (int i = 8; i < 14; i++) add(x.cell(sheet, i, 0));
            add(x.cell(sheet, 39, 0));
        }
        for (int paper = 0; paper < x.count(2); paper++) {
            for (int what = 0; what <= 4; what++) add(x.paperTold(paper, what));
        }
    }
}
