import java.lang.reflect.InvocationTargetException;
import java.lang.reflect.Method;
import java.util.ArrayList;
import java.util.Arrays;
import java.util.Comparator;
import java.util.List;
import java.util.Random;

/** Long runs of calls by lot (of fixed seeds), each answer held against the plain model's. */
public final class AgainstModelTest {
    private static final int RUNS = 400;
    private static final int CALLS = 250;

    private final Random lot;
    private final SoldEchoes echoes = new SoldEchoes();
    private final Model model = new Model();
    private int width;
    private int height;

    private AgainstModelTest(long seed) {
        lot = new Random(seed);
    }

    public static void main(String[] args) throws ReflectiveOperationException {
        List<Method> face = face();
        for (int run = 0; run < RUNS; run++) {
            new AgainstModelTest(run).goThrough(face, run);
        }
        Check.end("AgainstModelTest");
    }

    /** getDeclaredMethods tells no order, and the lot needs one. */
    private static List<Method> face() {
        List<Method> face = new ArrayList<>();
        for (Method m : SoldEchoes.class.getMethods()) {
            boolean own = m.getDeclaringClass() == SoldEchoes.class;
            if (own && !m.getName().equals("feed") && !m.getName().equals("valley")) {
                face.add(m);
            }
        }
        face.sort(Comparator.comparing(Method::getName));
        return face;
    }

    private void goThrough(List<Method> face, int run) throws ReflectiveOperationException {
        if (lot.nextInt(20) != 0) {
            tell(run);
        }
        for (int i = 0; i < CALLS; i++) {
            int kind = lot.nextInt(60);
            if (kind == 0) {
                tell(run);
            } else if (kind == 1) {
                feedByLot(run);
            } else if (kind == 2) {
                call("valley", new Object[] {lot.nextInt(40) - 2}, run);
            } else {
                Method m = face.get(lot.nextInt(face.size()));
                call(m.getName(), argumentsFor(m), run);
            }
        }
    }

    private void feedByLot(int run) throws ReflectiveOperationException {
        String bits = " 0123456789;abcdefvalyz";
        StringBuilder text = new StringBuilder(lot.nextBoolean() ? "valley 3 3;" : "");
        for (int i = 0; text.length() < 20; i++) {
            text.append(lot.nextInt(40) == 0 ? (char) lot.nextInt(256) : bits.charAt(lot.nextInt(bits.length())));
        }
        feed(text.substring(0, 20), run);
    }

    private void feed(String text, int run) throws ReflectiveOperationException {
        int[] n = Check.numbersOf(text);
        for (int i = 0; i < n.length; i += 5) {
            call("feed", new Object[] {n[i], n[i + 1], n[i + 2], n[i + 3], n[i + 4]}, run);
        }
    }

    private void tell(int run) throws ReflectiveOperationException {
        call("valley", new Object[] {0}, run);
        String text = lot.nextInt(3) == 0 ? spoil(textByLot()) : textByLot();
        if (text.length() > 600) {
            text = text.substring(0, 600);
        }
        feed(text, run);
        call("valley", new Object[] {text.length()}, run);
        call("fault", new Object[0], run);
        width = model.told.w;
        height = model.told.h;
    }

    private String spoil(String text) {
        StringBuilder b = new StringBuilder(text);
        int times = 1 + lot.nextInt(2);
        for (int i = 0; i < times && b.length() > 0; i++) {
            int at = lot.nextInt(b.length());
            switch (lot.nextInt(4)) {
                case 0 -> b.deleteCharAt(at);
                case 1 -> b.insert(at, (char) ('0' + lot.nextInt(10)));
                case 2 -> b.setCharAt(at, (char) lot.nextInt(256));
                default -> b.setLength(at);
            }
        }
        return b.toString();
    }

    private String blanks() {
        return lot.nextInt(8) == 0 ? "  " : "";
    }

    private String textByLot() {
        int w = 2 + lot.nextInt(9);
        int h = lot.nextInt(3) == 0 ? 2 : 2 + lot.nextInt(9);
        StringBuilder b = new StringBuilder(blanks() + "valley " + w + " " + h + blanks() + ";");
        String[] words = {"face", "face", "face", "face", "face", "wood", "snow", "field", "site", "season", "maybe", "maybe", "loud", "law"};
        boolean crowded = lot.nextInt(8) == 0;
        int clauses = lot.nextInt(crowded ? 70 : 40);
        for (int i = 0; i < clauses; i++) {
            String clause = clauseByLot(words[lot.nextInt(crowded ? 7 : words.length)], w, h);
            if (crowded || lot.nextInt(30) == 0 || mayStand(b, clause)) {
                b.append(clause);
            }
        }
        return b.append(blanks()).toString();
    }

    /** Keeps most texts below the limits, so that most are valleys. */
    private boolean mayStand(StringBuilder text, String clause) {
        String word = clause.trim().replaceAll("[^a-z].*", "");
        int limit = switch (word) {
            case "snow", "maybe" -> 8;
            case "field" -> 5;
            case "site", "season" -> 4;
            default -> 99;
        };
        return text.toString().split(word, -1).length - 1 < limit && text.length() + clause.length() <= 600;
    }

    private String clauseByLot(String word, int w, int h) {
        int x = lot.nextInt(w);
        int y = lot.nextInt(h);
        String place = " " + x + " " + y + " ";
        String numbers = switch (word) {
            case "face" -> place + (lot.nextInt(3) == 0 ? 1 + lot.nextInt(9) : 9);
            case "wood" -> place + (1 + lot.nextInt(9));
            case "snow" -> place + (1 + lot.nextInt(lot.nextBoolean() ? 99 : 30));
            case "field" -> place + (x + lot.nextInt(w - x)) + " " + (y + lot.nextInt(h - y)) + " " + (1 + lot.nextInt(99));
            case "site" -> place + lot.nextInt(lot.nextBoolean() ? 100 : 12);
            case "season" -> " " + lot.nextInt(10) + " " + (1 + lot.nextInt(9));
            case "maybe" -> place;
            case "loud" -> " " + (1 + lot.nextInt(99));
            default -> " " + lot.nextInt(3);
        };
        return blanks() + word + numbers + blanks() + ";";
    }

    private Object[] argumentsFor(Method m) {
        Object[] args = new Object[m.getParameterCount()];
        for (int i = 0; i < args.length; i++) {
            args[i] = argument(m.getName(), i, args.length);
        }
        if (lot.nextInt(25) == 0 && args.length > 0) {
            int[] wild = {-1, Integer.MIN_VALUE, Integer.MAX_VALUE, 100, 4096, 25, 13, 10, 9, 4, 3};
            args[lot.nextInt(args.length)] = wild[lot.nextInt(wild.length)];
        }
        return args;
    }

    private int argument(String name, int i, int of) {
        boolean cell = Arrays.asList("cell", "build", "fell", "echoes", "echo", "count", "gain", "heard", "loudest", "compose",
            "book", "snows", "hush").contains(name);
        if (cell && i < 2) {
            return lot.nextInt(Math.max(1, i == 0 ? width : height));
        }
        int fog = lot.nextInt(3) == 0 ? lot.nextInt(10) : 0;
        int fields = Math.max(1, model.told.list("field").size());
        return switch (name + i) {
            case "told0" -> lot.nextInt(11);
            case "cell2" -> lot.nextInt(2);
            case "years0" -> lot.nextInt(4) == 0 ? lot.nextInt(21) : lot.nextInt(2);
            case "echoes2", "echo2", "count2", "most1", "least1", "mean1", "worth1" -> fog;
            case "echo3" -> lot.nextInt(8);
            case "echo4", "explain0" -> lot.nextInt(4);
            case "count3", "most2", "most3", "least2", "least3", "mean2", "unlike0", "unlike1", "ask0" -> lot.nextInt(3);
            case "mean3", "building2", "rests0", "fair1", "trade1", "loudest3" -> lot.nextInt(2);
            case "field0", "most0", "least0", "mean0", "worth0", "gain2", "building0", "fair0", "trade0", "deaf0" -> lot.nextInt(fields);
            case "field1" -> lot.nextInt(5);
            case "building1" -> lot.nextInt(12);
            case "heard2", "loudest2" -> lot.nextInt(4096);
            case "heard3" -> lot.nextInt(40);
            case "compose2" -> 1 + lot.nextInt(12);
            case "book2" -> 1 + lot.nextInt(12);
            case "book3" -> lot.nextInt(3);
            case "deaf1" -> 1 + lot.nextInt(30);
            case "status0", "sums0" -> lot.nextInt(5) - 1;
            default -> throw new IllegalStateException(name + i);
        };
    }

    private void call(String name, Object[] args, int run) throws ReflectiveOperationException {
        // A line by lot is seldom so: most lines tell what a set of maybe cells would let come.
        if (name.equals("book") && lot.nextInt(4) != 0 && width > 0) {
            honestLine(args);
        }
        String call = "run " + run + ": " + name + Arrays.toString(args);
        Object due = answer(model, name, args);
        Object got = answer(echoes, name, args);
        Check.so(call + " answered " + got + ", due is " + due, got.equals(due));
    }

    private void honestLine(Object[] args) {
        int x = (Integer) args[0];
        int y = (Integer) args[1];
        int set = lot.nextInt(256) & lot.nextInt(256);
        List<Model.Echo> all = model.shout(x, y, 0, model.with("maybe", set));
        if (!all.isEmpty()) {
            int time = all.get(lot.nextInt(all.size())).time();
            args[2] = time;
            args[3] = (int) all.stream().filter(e -> e.time() == time).count();
        }
    }

    private static Object answer(Object on, String name, Object[] args) throws ReflectiveOperationException {
        Class<?>[] types = new Class<?>[args.length];
        Arrays.fill(types, int.class);
        try {
            Method m = on.getClass().getDeclaredMethod(name, types);
            return m.invoke(on, args);
        } catch (InvocationTargetException e) {
            return "throws." + e.getCause().getClass().getSimpleName();
        }
    }
}
