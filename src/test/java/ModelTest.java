import java.lang.reflect.InvocationTargetException;
import java.lang.reflect.Method;
import java.lang.reflect.Modifier;
import java.nio.charset.StandardCharsets;
import java.util.ArrayList;
import java.util.Arrays;
import java.util.Comparator;
import java.util.List;
import java.util.Random;

/** Runs of calls by chance (always the same ones), held against the model: promises 1 to 51. */
public final class ModelTest {
    private static final int RUNS = 700;
    private static final int CALLS = 300;
    private static final int FAULTY_TEXTS = 20000;

    private final Check check = new Check("ModelTest");
    private final List<Method> calls = new ArrayList<>();

    private ModelTest() {
        for (Method method : SoapWorks.class.getDeclaredMethods()) {
            if (Modifier.isPublic(method.getModifiers())) calls.add(method);
        }
        calls.sort(Comparator.comparing(Method::getName));
    }

    public static void main(String[] args) throws ReflectiveOperationException {
        ModelTest test = new ModelTest();
        int runs = args.length > 0 ? Integer.parseInt(args[0]) : RUNS;
        int seed = args.length > 1 ? Integer.parseInt(args[1]) : 0;
        for (int run = 0; run < runs; run++) test.run(new Random(seed + run));
        test.readFaulty(new Random(seed + 17));
        test.check.close();
    }

    private void readFaulty(Random chance) {
        Texts texts = new Texts(chance);
        int[] faults = new int[6];
        for (int i = 0; i < FAULTY_TEXTS; i++) {
            int sort = chance.nextInt(4);
            String text = sort == 0 ? texts.heap() : sort == 1 ? texts.deep() : texts.wrong();
            SoapWorks x = new SoapWorks();
            Model model = new Model();
            byte[] bytes = text.getBytes(StandardCharsets.ISO_8859_1);
            Check.put(x, bytes);
            put(model, bytes);
            check.due("works() of '" + text + "'", x.works(), model.works());
            check.due("fault(0) of '" + text + "'", x.fault(0), model.fault(0));
            check.due("fault(1) of '" + text + "'", x.fault(1), model.fault(1));
            check.due("about(14) of '" + text + "'", x.about(14), model.about(14));
            faults[x.fault(0)]++;
        }
        System.out.println("ModelTest: texts by FAULT " + Arrays.toString(faults));
    }

    private static void put(Model model, byte[] text) {
        byte[] whole = Arrays.copyOf(text, (text.length + 19) / 20 * 20);
        for (int from = 0; from < whole.length; from += 20) {
            int[] numbers = new int[5];
            java.nio.ByteBuffer.wrap(whole, from, 20).asIntBuffer().get(numbers);
            model.feed(numbers);
        }
        model.end(text.length);
    }

    private void run(Random chance) throws ReflectiveOperationException {
        Texts texts = new Texts(chance);
        SoapWorks x = new SoapWorks();
        Model model = new Model();
        read(x, model, texts.sound());
        StringBuilder log = new StringBuilder();
        for (int i = 0; i < CALLS; i++) {
            if (chance.nextInt(150) == 0) read(x, model, chance.nextInt(2) == 0 ? texts.sound() : texts.wrong());
            Method method = chance.nextInt(3) == 0 ? act(chance) : calls.get(chance.nextInt(calls.size()));
            // The TAPE would be read: the works is to live a while.
            if (method.getName().equals("works") && chance.nextInt(10) > 0) continue;
            Object[] arguments = arguments(method, chance);
            int got = answer(method.invoke(x, arguments));
            int want = answer(ask(model, method, arguments));
            log.append(method.getName()).append(Arrays.toString(arguments)).append(' ');
            check.due(log.length() > 400 ? log.substring(log.length() - 400) : log.toString(), got, want);
            if (got != want) return;
        }
        for (int what = 0; what <= 16; what++) check.due("about(" + what + ") at the end", x.about(what), model.about(what));
    }

    private void read(SoapWorks x, Model model, String text) {
        x.end(0);
        model.end(0);
        byte[] bytes = text.getBytes(StandardCharsets.ISO_8859_1);
        Check.put(x, bytes);
        put(model, bytes);
        check.due("works() of '" + text + "'", x.works(), model.works());
        check.due("fault(1) of '" + text + "'", x.fault(1), model.fault(1));
    }

    private Method act(Random chance) {
        String[] acts = {"confess", "confess", "boil", "boil", "boil", "wash", "wash", "sweep", "undo", "undo", "redo",
            "seen", "untell", "later", "image", "back"};
        String name = acts[chance.nextInt(acts.length)];
        for (Method method : calls) if (method.getName().equals(name)) return method;
        throw new IllegalStateException(name);
    }

    private static int answer(Object given) {
        return given instanceof Boolean is ? is ? 1 : 0 : (Integer) given;
    }

    private static Object ask(Model model, Method method, Object[] arguments) throws ReflectiveOperationException {
        if (method.getName().equals("feed")) {
            int[] numbers = new int[5];
            for (int i = 0; i < 5; i++) numbers[i] = (Integer) arguments[i];
            return model.feed(numbers);
        }
        try {
            Method same = Model.class.getDeclaredMethod(method.getName(), method.getParameterTypes());
            return same.invoke(model, arguments);
        } catch (InvocationTargetException e) {
            throw new IllegalStateException(e.getCause());
        }
    }

    private static Object[] arguments(Method method, Random chance) {
        String name = method.getName();
        Class<?>[] types = method.getParameterTypes();
        Object[] all = new Object[types.length];
        for (int i = 0; i < types.length; i++) {
            all[i] = types[i] == boolean.class ? (Object) chance.nextBoolean() : (Object) number(name, i, chance);
        }
        return all;
    }

    private static int number(String name, int place, Random chance) {
        if (name.equals("feed")) return chance.nextInt();
        if (chance.nextInt(200) == 0) return chance.nextInt();
        if (chance.nextInt(200) == 0) return chance.nextBoolean() ? Integer.MIN_VALUE : Integer.MAX_VALUE;
        if (name.equals("will") && place == 1) return chance.nextInt(64) - 1;
        if (name.equals("choir") && place == 0) return chance.nextInt(34) - 1;
        if (name.equals("law")) return chance.nextInt(4) == 0 ? chance.nextInt(103) - 1 : chance.nextInt(12);
        if (name.equals("about")) return chance.nextInt(19) - 1;
        if (name.equals("end")) return chance.nextInt(60) - 1;
        if (name.equals("seen") && place == 0) return chance.nextInt(15) - 1;
        if (name.equals("seen") && place == 2) return chance.nextInt(8) == 0 ? chance.nextInt(1010) - 4 : chance.nextInt(30);
        if (name.equals("ask") && place == 0) return chance.nextInt(15) - 1;
        if (name.equals("untell")) return chance.nextInt(32) - 1;
        if (name.equals("later")) return chance.nextInt(9) == 0 ? chance.nextInt(1003) - 1 : chance.nextInt(4);
        boolean atTime = name.equals("fits") || name.equals("sure") && place == 1 || name.equals("ask") && place == 2;
        if (atTime) return chance.nextInt(3) == 0 ? 100000 : chance.nextInt(40) - 1;
        boolean isWhat = place == 1 && !name.equals("mind") && !name.equals("wants") && !name.equals("duel")
                && !name.equals("steps") && !name.equals("rule") || name.equals("will") && place == 2;
        if (isWhat) return chance.nextInt(20) == 0 ? chance.nextInt(5) - 2 : chance.nextInt(2);
        return chance.nextInt(20) == 0 ? chance.nextInt(10) - 2 : chance.nextInt(5);
    }
}
