import java.lang.reflect.InvocationTargetException;
import java.lang.reflect.Method;
import java.util.Arrays;
import java.util.NoSuchElementException;

/**
 * Every argument of every call on both sides of its bounds: at the bounds the call is answered; one beyond them, and far
 * beyond them, it throws what the document names, is counted once by its reason, and changes nothing.
 */
public final class RangesTest {
    private static final int LOW = Integer.MIN_VALUE;
    private static final int HIGH = Integer.MAX_VALUE;
    private static final int WIDTH = 4;
    private static final int HEIGHT = 3;
    private static final String VALLEY = "valley 4 3;face 3 0 9;wood 1 1 2;snow 2 2 3;field 0 0 1 1 5;field 2 1 3 2 7;"
        + "site 0 2 4;season 0 1;season 1 2;maybe 1 0;maybe 2 0;";
    private static final Class<?>[] REASONS = {
        IndexOutOfBoundsException.class, NoSuchElementException.class, IllegalArgumentException.class};

    /** An argument may be low to high; another one is refused for a reason, as status() numbers them. */
    private record Bounds(int reason, int low, int high) {
    }

    private static final Bounds X = new Bounds(0, 0, WIDTH - 1);
    private static final Bounds Y = new Bounds(0, 0, HEIGHT - 1);
    private static final Bounds FIELD = new Bounds(1, 0, 1);
    private static final Bounds FOG = number(0, 9);
    private static final Bounds LAW = number(0, 2);
    private static final Bounds NOTES = number(0, 4095);
    private static final Bounds ANY = number(LOW, HIGH);

    public static void main(String[] args) throws ReflectiveOperationException {
        call("feed", ANY, ANY, ANY, ANY, ANY);
        // The tape has 20 bytes then.
        call("valley", number(0, 20));
        call("told", number(0, 10));
        call("cell", X, Y, number(0, 1));
        call("build", X, Y);
        call("fell", X, Y);
        call("years", number(0, 20));
        call("echoes", X, Y, FOG);
        call("echo", X, Y, FOG, ANY, number(0, 3));
        call("count", X, Y, FOG, LAW);
        call("field", FIELD, number(0, 4));
        call("most", FIELD, FOG, LAW, number(0, 2));
        call("least", FIELD, FOG, LAW, number(0, 2));
        call("mean", FIELD, FOG, LAW, number(0, 1));
        call("worth", FIELD, FOG);
        call("gain", X, Y, FIELD);
        call("building", FIELD, number(0, 24), number(0, 1));
        call("rests", number(0, 1));
        call("fair", FIELD, number(0, 1));
        call("trade", FIELD, number(0, 1));
        call("unlike", LAW, LAW);
        call("heard", X, Y, NOTES, number(0, 99));
        call("loudest", X, Y, NOTES, number(0, 1));
        call("compose", X, Y, number(1, 12));
        call("book", X, Y, number(1, 99), number(0, 24));
        call("explain", number(0, 3));
        call("ask", number(0, 2));
        call("snows", X, Y);
        call("hush", X, Y);
        call("deaf", FIELD, number(1, 99));
        call("status", ANY);
        call("sums", ANY);
        for (String name : new String[] {"fault", "forget", "safe", "image", "restore"}) {
            call(name);
        }
        Check.end("RangesTest");
    }

    private static Bounds number(int low, int high) {
        return new Bounds(2, low, high);
    }

    /** An object in which nothing is as in a new one, and three fields, bytes, lines and so on could be lost. */
    private static SoldEchoes ready() {
        SoldEchoes e = Check.valleyOf(VALLEY);
        Check.due("a fault, so that there is a place", Check.tell(e, "valley 2 1;"), -8);
        e.build(3, 2);
        e.years(4);
        e.book(0, 1, 2, 1);
        e.image();
        e.fell(1, 1);
        e.years(3);
        e.book(2, 0, 6, 0);
        e.feed(0x76616C6C, 0x65792033, 0x20333B20, 0x20202020, 0x20202020);
        return e;
    }

    private static void call(String name, Bounds... bounds) throws ReflectiveOperationException {
        int[] lowest = Arrays.stream(bounds).mapToInt(Bounds::low).toArray();
        int[] highest = Arrays.stream(bounds).mapToInt(Bounds::high).toArray();
        answered(name, lowest);
        answered(name, highest);
        for (int i = 0; i < bounds.length; i++) {
            answered(name, with(lowest, i, highest[i]));
            answered(name, with(highest, i, lowest[i]));
            if (bounds[i] != ANY) {
                refusedBeyond(name, lowest, i, bounds[i]);
                refusedBeyond(name, highest, i, bounds[i]);
            }
        }
        firstReason(name, bounds, highest);
        withoutCells(name, bounds, lowest);
    }

    private static int[] with(int[] args, int i, int value) {
        int[] changed = args.clone();
        changed[i] = value;
        return changed;
    }

    private static void refusedBeyond(String name, int[] args, int i, Bounds b) throws ReflectiveOperationException {
        for (int wrong : new int[] {b.low() - 1, b.high() + 1, b.low() - 256, b.high() + 256, LOW, HIGH}) {
            refused(name, with(args, i, wrong), b.reason());
        }
    }

    /** Of two wrong arguments no such cell is ahead of all, and no such field ahead of numbers. */
    private static void firstReason(String name, Bounds[] bounds, int[] args) throws ReflectiveOperationException {
        for (int i = 0; i < bounds.length; i++) {
            for (int j = 0; j < bounds.length; j++) {
                if (i != j && bounds[i] != ANY && bounds[j] != ANY) {
                    int[] both = with(with(args, i, args[i] + 1), j, -1);
                    refused(name, both, Math.min(bounds[i].reason(), bounds[j].reason()));
                }
            }
        }
    }

    /** A new object has no cells and no fields: what needs one is refused, all else is answered. */
    private static void withoutCells(String name, Bounds[] bounds, int[] args) throws ReflectiveOperationException {
        int reason = Arrays.stream(bounds).mapToInt(Bounds::reason).min().orElse(2);
        SoldEchoes e = new SoldEchoes();
        Object got = answer(e, name, args);
        String call = "new: " + name + Arrays.toString(args);
        if (reason < 2) {
            Check.so(call + " answered " + got, got == REASONS[reason]);
            counted(call, e, reason);
        } else {
            Check.so(call + " answered " + got, got instanceof Integer);
            counted(call, e, -1);
        }
    }

    private static void answered(String name, int[] args) throws ReflectiveOperationException {
        SoldEchoes e = ready();
        String call = name + Arrays.toString(args);
        Object got = answer(e, name, args);
        Check.so(call + " answered " + got, got instanceof Integer);
        counted(call, e, -1);
    }

    private static void refused(String name, int[] args, int reason) throws ReflectiveOperationException {
        SoldEchoes e = ready();
        String call = name + Arrays.toString(args);
        int[] before = all(e);
        Object got = answer(e, name, args);
        Check.so(call + " answered " + got + ", due is " + REASONS[reason], got == REASONS[reason]);
        counted(call, e, reason);
        Check.so(call + " changed something", Arrays.equals(before, all(e)));
    }

    /** One call was refused by this reason and none by others; by none at all, if reason is -1. */
    private static void counted(String call, SoldEchoes e, int reason) {
        for (int what = 0; what < REASONS.length; what++) {
            Check.due(call + ", then status(" + what + ")", e.status(what), what == reason ? 1 : 0);
        }
    }

    /** All that a call could change, the image behind it and the bytes on the tape too. */
    private static int[] all(SoldEchoes e) {
        int[] all = new int[64];
        int at = 0;
        for (int what = 0; what <= 10; what++) {
            all[at++] = e.told(what);
        }
        for (int x = 0; x < WIDTH; x++) {
            for (int y = 0; y < HEIGHT; y++) {
                all[at++] = e.cell(x, y, 0);
                all[at++] = e.cell(x, y, 1);
            }
        }
        for (int what = 0; what < 4; what++) {
            all[at++] = e.explain(what);
        }
        all[at++] = e.fault();
        all[at++] = e.sums(0);
        all[at++] = e.sums(1);
        return all;
    }

    /** The number that the call answers, or the class that it throws. */
    private static Object answer(SoldEchoes e, String name, int[] args) throws ReflectiveOperationException {
        Class<?>[] types = new Class<?>[args.length];
        Arrays.fill(types, int.class);
        Method m = SoldEchoes.class.getMethod(name, types);
        try {
            return m.invoke(e, Arrays.stream(args).boxed().toArray());
        } catch (InvocationTargetException thrown) {
            return thrown.getCause().getClass();
        }
    }
}
