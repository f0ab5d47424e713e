import java.lang.reflect.InvocationTargetException;
import java.lang.reflect.Method;
import java.util.Arrays;
import java.util.HashMap;
import java.util.Map;
import java.util.regex.Matcher;
import java.util.regex.Pattern;

/**
 * An object that is asked calls as they are written (MAX and MIN: the greatest int, the least), each answer held against
 * the one that is due. The plain model is asked all of them too, so that what is said to be due has two witnesses.
 */
final class Asked {
    private static final int MOST_CALLS = 512;
    private static final Pattern CALL = Pattern.compile("(\\w+)\\(([^)]*)\\)");
    private static final Map<String, Method> FACE = methods(CoffeeThatSlops.class);
    private static final Map<String, Method> MODEL = methods(PlainModel.class);

    private final Edges edges;
    private final CoffeeThatSlops x = new CoffeeThatSlops();
    private final PlainModel model = new PlainModel();
    private int calls = 0;

    Asked(Edges edges) {
        this.edges = edges;
    }

    /** Calls whose answers are of no matter for the test. */
    Asked does(String... made) {
        for (String call : made) {
            answer(call);
        }
        return this;
    }

    Asked is(String call, long want) {
        return is(call, want, "");
    }

    Asked is(String call, boolean want) {
        return is(call, want, "");
    }

    /** Refused calls of the same answer. */
    Asked none(String... made) {
        for (String call : made) {
            is(call, CoffeeThatSlops.NONE);
        }
        return this;
    }

    Asked refused(String... made) {
        for (String call : made) {
            is(call, false);
        }
        return this;
    }

    Asked noSuch(String... made) {
        for (String call : made) {
            is(call, "NoSuchElementException", "");
        }
        return this;
    }

    /** The ROW is just these numbers. */
    Asked row(long... want) {
        is("count(7)", want.length);
        for (int i = 0; i < want.length; i++) {
            is("row(" + i + ")", want[i]);
        }
        return noSuch("row(" + want.length + ")");
    }

    /** HEIGHTS of all CELLS of a ROW. */
    Asked heights(int row, long... want) {
        for (int i = 0; i < want.length; i++) {
            is("cell(" + row + ", " + i + ", 0)", want[i]);
        }
        return this;
    }

    /** FLOWS at all GAPS of a ROW. */
    Asked flows(int row, long... want) {
        for (int i = 0; i < want.length; i++) {
            is("cell(" + row + ", " + i + ", 1)", want[i]);
        }
        return this;
    }

    /** THE TEXT has these signs. */
    Asked text(String signs) {
        does("end(0)");
        for (int i = 0; i < signs.length(); i += 4) {
            int four = 0;
            for (int k = i; k < i + 4; k++) {
                four = four << 8 | (k < signs.length() ? signs.charAt(k) & 255 : 0);
            }
            does("sign(" + four + ")");
        }
        return is("end(" + signs.length() + ")", true);
    }

    Asked walk(int i, String signs, long want) {
        return text(signs).is("walk(" + i + ")", want, " of " + signs).is("count(8)", 0);
    }

    Asked law(int i, String signs, long want) {
        return text(signs).is("law(" + i + ")", want, " of " + signs).is("count(8)", 0);
    }

    /** A WALK that is good. */
    Asked walks(int i, String signs) {
        text(signs);
        edges.is("walk " + signs + " is good", answerOf("walk(" + i + ")") >= 0, true);
        return this;
    }

    /** What a call answers, as a number. */
    int answerOf(String call) {
        return Integer.parseInt(answer(call));
    }

    /** The answers to many calls, told as one. */
    String all(String... made) {
        StringBuilder sb = new StringBuilder();
        for (String call : made) {
            sb.append(call).append(": ").append(answer(call)).append("\n");
        }
        return sb.toString();
    }

    private Asked is(String call, Object want, String more) {
        edges.is(call + more, answer(call), String.valueOf(want));
        return this;
    }

    private String answer(String call) {
        Matcher m = CALL.matcher(call);
        if (!m.matches()) {
            throw new IllegalArgumentException(call);
        }
        String[] told = m.group(2).isEmpty() ? new String[0] : m.group(2).split(", *");
        Object[] numbers = Arrays.stream(told).map(Asked::number).toArray();
        calls++;
        if (calls == MOST_CALLS + 1) {
            edges.is(call + ", call " + calls + " of an object, is promised", false, true);
        }
        String got = answer(x, FACE.get(m.group(1)), numbers);
        edges.is(call + ", the model", answer(model, MODEL.get(m.group(1)), numbers), got);
        return got;
    }

    private static Integer number(String told) {
        return told.equals("MAX") ? Integer.MAX_VALUE : told.equals("MIN") ? Integer.MIN_VALUE : Integer.valueOf(told);
    }

    private static String answer(Object of, Method method, Object[] numbers) {
        try {
            return String.valueOf(method.invoke(of, numbers));
        } catch (InvocationTargetException e) {
            return e.getCause().getClass().getSimpleName();
        } catch (IllegalAccessException e) {
            throw new IllegalStateException(e);
        }
    }

    private static Map<String, Method> methods(Class<?> type) {
        Map<String, Method> methods = new HashMap<>();
        for (Method m : type.getMethods()) {
            methods.put(m.getName(), m);
        }
        return methods;
    }
}
