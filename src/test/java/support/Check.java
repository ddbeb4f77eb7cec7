import java.nio.charset.StandardCharsets;
import java.util.function.IntSupplier;

/** Counts answers that are not as due, and tells them. */
final class Check {
    private static int checks = 0;
    private static int wrong = 0;

    private Check() {
    }

    static void due(String call, long got, long want) {
        checks++;
        if (got != want) {
            wrong++;
            System.out.println(call + " answered " + got + ", due is " + want);
        }
    }

    static void so(String what, boolean so) {
        due(what, so ? 1 : 0, 1);
    }

    /** The class is compared exactly: no exception above or below it will do. */
    static void refused(String call, Class<? extends RuntimeException> kind, IntSupplier run) {
        String got = "nothing";
        try {
            run.getAsInt();
        } catch (RuntimeException e) {
            got = e.getClass().getName();
        }
        checks++;
        if (!got.equals(kind.getName())) {
            wrong++;
            System.out.println(call + " threw " + got + ", due is " + kind.getName());
        }
    }

    static void noCell(String call, IntSupplier run) {
        refused(call, IndexOutOfBoundsException.class, run);
    }

    static void noField(String call, IntSupplier run) {
        refused(call, java.util.NoSuchElementException.class, run);
    }

    static void noArgument(String call, IntSupplier run) {
        refused(call, IllegalArgumentException.class, run);
    }

    /** Ends the test: exit code 1, if an answer was not as due. */
    static void end(String test) {
        System.out.println(test + ": " + checks + " checks, " + wrong + " wrong");
        if (wrong != 0 || checks == 0) {
            System.exit(1);
        }
    }

    /** The numbers by which a text comes on the tape, filled up with zeros. */
    static int[] numbersOf(String text) {
        byte[] bytes = text.getBytes(StandardCharsets.ISO_8859_1);
        int feeds = (bytes.length + 19) / 20;
        int[] numbers = new int[feeds * 5];
        for (int i = 0; i < bytes.length; i++) {
            numbers[i / 4] |= (bytes[i] & 0xFF) << (24 - i % 4 * 8);
        }
        return numbers;
    }

    static void tape(SoldEchoes echoes, String text) {
        int[] n = numbersOf(text);
        for (int i = 0; i < n.length; i += 5) {
            echoes.feed(n[i], n[i + 1], n[i + 2], n[i + 3], n[i + 4]);
        }
    }

    static int tell(SoldEchoes echoes, String text) {
        tape(echoes, text);
        return echoes.valley(text.length());
    }

    static SoldEchoes valleyOf(String text) {
        SoldEchoes echoes = new SoldEchoes();
        int fields = tell(echoes, text);
        so("a valley without faults: " + text + " (fault " + fields + " at " + echoes.fault() + ")", fields >= 0);
        return echoes;
    }
}
