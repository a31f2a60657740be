import java.lang.reflect.InvocationTargetException;
import java.lang.reflect.Method;
import java.lang.reflect.Modifier;
import java.util.Arrays;

/**
 * Every call with every mix of numbers at the document's bounds, without a hall, in a small one and in a full one,
 * each answer against the model's: no mix throws, and none is answered by a refusal that comes later.
 */
final class EveryArgumentTest {
    private static final int MIN = Integer.MIN_VALUE, MAX = Integer.MAX_VALUE;
    private static final Integer[] FEW_ARGUMENTS = {MIN, -61, -10, -9, -2, -1, 0, 1, 2, 3, 4, 5, 7, 8, 9, 10, 18, 19, 20,
        59, 60, 61, 122, 256, 65536, MAX - 1, MAX};
    private static final Integer[] MANY_ARGUMENTS = {MIN, -9, -1, 0, 1, 2, 3, 4, 5, 6, 19, 20, 60, MAX};
    private static final String[] TEXTS = {"", "z2,b12", "z5,c12,b34,t09,b01,c49"};
    private static final int BROKEN_LIMIT = 20;
    /** Each mix is up to three calls, and an object is used for at most 512, those that renew it among them. */
    private static final int MIXES = 130;

    private final Method call;
    private final Method modelCall;
    private final String text;
    private final Object[] arguments;
    private ChairGrudge x;
    private Model model;
    private int mixes = 0;
    private int broken = 0;

    private EveryArgumentTest(Method call, String text) throws NoSuchMethodException {
        this.call = call;
        this.modelCall = Model.class.getDeclaredMethod(call.getName(), call.getParameterTypes());
        this.text = text;
        this.arguments = new Object[call.getParameterCount()];
        renew();
    }

    public static void main(String[] args) throws Exception {
        int calls = 0;
        for (Method call : ChairGrudge.class.getDeclaredMethods()) {
            if (Modifier.isPublic(call.getModifiers())) {
                calls++;
                for (String text : TEXTS) {
                    new EveryArgumentTest(call, text).mix(0);
                }
            }
        }
        Due.due("calls of the face", calls, 33);
        Due.end("EveryArgumentTest");
    }

    private void mix(int k) throws IllegalAccessException, InvocationTargetException {
        if (broken > BROKEN_LIMIT) {
            return;
        }
        if (k == arguments.length) {
            compare();
            return;
        }
        if (call.getParameterTypes()[k] == boolean.class) {
            for (Object bore : new Object[] {true, false}) {
                arguments[k] = bore;
                mix(k + 1);
            }
            return;
        }
        for (Object number : arguments.length <= 3 ? FEW_ARGUMENTS : MANY_ARGUMENTS) {
            arguments[k] = number;
            mix(k + 1);
        }
    }

    private void compare() throws IllegalAccessException, InvocationTargetException {
        mixes++;
        long want = ((Number) modelCall.invoke(model, arguments)).longValue();
        long got;
        try {
            got = ((Number) call.invoke(x, arguments)).longValue();
        } catch (InvocationTargetException e) {
            complain("threw " + e.getCause());
            renew();
            return;
        }
        if (got != want || x.fault() != model.fault() || x.trace() != model.trace()) {
            complain("answered " + got + " with fault " + x.fault() + " and trace " + x.trace() + ", due is " + want
                + " with " + model.fault() + " and " + model.trace());
            renew();
        } else if (want >= 0 || mixes >= MIXES) {
            // what was answered may have changed the object: the next mix comes to it as it was
            renew();
        } else {
            Due.due("answered alike", true);
        }
    }

    private void complain(String what) {
        broken++;
        Due.due(call.getName() + Arrays.toString(arguments) + " in a hall by '" + text + "' " + what, false);
    }

    /** Both with the same calls behind them; sheets of all lanes, one with nothing. */
    private void renew() {
        mixes = 0;
        x = new ChairGrudge();
        model = new Model();
        for (int k = 0; k < 3; k++) {
            x.sheet(k, k, k == 0 ? text.length() : 5 - k);
            model.sheet(k, k, k == 0 ? text.length() : 5 - k);
        }
        for (int i = 0; i < text.length(); i++) {
            x.put(0, i, text.charAt(i));
            model.put(0, i, text.charAt(i));
        }
        x.hall(0, 0, 0, text.length());
        model.hall(0, 0, 0, text.length());
        for (int i = 0; i < 3; i++) {
            x.put(2, i, i == 1 ? -9 : i);
            model.put(2, i, i == 1 ? -9 : i);
        }
        int notes = text.length() > 10 ? 8 : 3;
        for (int k = 0; k < notes; k++) {
            note(k);
        }
    }

    private void note(int k) {
        x.slip(k, k % 5, k % 4);
        model.slip(k, k % 5, k % 4);
        x.butter(k + 1, k % 3, k % 5);
        model.butter(k + 1, k % 3, k % 5);
        boolean bore = model.bears(k % 5, k % 5, k + 2) == 1;
        x.reading(k + 2, k % 5, k % 5, bore);
        model.reading(k + 2, k % 5, k % 5, bore);
    }
}
