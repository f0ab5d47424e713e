import java.lang.reflect.InvocationTargetException;
import java.lang.reflect.Method;
import java.util.ArrayList;
import java.util.Comparator;
import java.util.List;
import java.util.NoSuchElementException;

/**
 * Random runs of calls on new objects, each answer held against the plain model's. The runs are the same each time.
 * Arguments: the class's file (of no use here), then, if more is wanted, how many runs and the first run's number.
 */
public final class ModelTest {
    private static final String[] FAR_OFF = {"few", "best", "lid", "door", "plan", "form", "pause", "two", "helps", "worst",
        "stop", "odds", "full", "layers", "who"};
    private static final String PARTS = "gsjw;,*-0123456789x";
    private static final String THINGS = "pstfh+-*/()0123456789q";
    private static final int CALLS = 150;

    private final List<Method> calls = new ArrayList<>();
    private final StringBuilder told = new StringBuilder();
    private long dice;
    private int asked = 0;

    public static void main(String[] args) throws Exception {
        int runs = args.length > 1 ? Integer.parseInt(args[1]) : 400;
        int first = args.length > 2 ? Integer.parseInt(args[2]) : 1;
        ModelTest test = new ModelTest();
        for (Method m : CoffeeThatSlops.class.getDeclaredMethods()) {
            if (java.lang.reflect.Modifier.isPublic(m.getModifiers())) {
                test.calls.add(m);
            }
        }
        test.calls.sort(Comparator.comparing(Method::getName));
        boolean good = test.calls.size() == 49;
        for (int run = first; run < first + runs && good; run++) {
            good = test.run(run);
        }
        System.out.println(test.asked + " answers asked, " + (good ? "all as the model's" : "one is not the model's"));
        System.exit(good ? 0 : 1);
    }

    private int roll(int n) {
        dice = dice * 6364136223846793005L + 1442695040888963407L;
        return (int) ((dice >>> 33) % n);
    }

    private int roll(int least, int most) {
        return least + roll(most - least + 1);
    }

    private boolean run(int number) throws Exception {
        dice = number * 7919L;
        told.setLength(0);
        CoffeeThatSlops x = new CoffeeThatSlops();
        PlainModel m = new PlainModel();
        for (int i = 0; i < CALLS; i++) {
            boolean good;
            int kind = roll(12);
            if (kind == 0) {
                good = text(x, m, randomWalk(), "walk", roll(20) == 0 ? roll(-1, 5) : roll(4));
            } else if (kind == 1) {
                good = text(x, m, randomLaw(), "law", roll(20) == 0 ? roll(-1, 4) : roll(3));
            } else if (kind == 2) {
                good = call(x, m, find("cup"), roll(2, 9), roll(30, 200), roll(10, 110));
            } else {
                Method method = calls.get(roll(calls.size()));
                if (List.of(FAR_OFF).contains(method.getName()) && roll(3) > 0) {
                    continue;
                }
                good = call(x, m, method, arguments(method));
            }
            if (!good || !sameRow(x, m)) {
                System.out.println("run " + number + ":" + told);
                return false;
            }
        }
        return true;
    }

    private Method find(String name) {
        for (Method m : calls) {
            if (m.getName().equals(name)) {
                return m;
            }
        }
        throw new IllegalArgumentException(name);
    }

    private boolean text(CoffeeThatSlops x, PlainModel m, String signs, String call, int i) throws Exception {
        boolean good = true;
        for (int k = 0; k < signs.length() && good; k += 4) {
            int four = 0;
            for (int n = k; n < k + 4; n++) {
                four = four << 8 | (n < signs.length() ? signs.charAt(n) & 255 : 0);
            }
            good = call(x, m, find("sign"), four);
        }
        return good && call(x, m, find("end"), signs.length()) && call(x, m, find(call), i);
    }

    private boolean call(CoffeeThatSlops x, PlainModel m, Method method, int... numbers) throws Exception {
        Object[] arguments = new Object[numbers.length];
        for (int i = 0; i < numbers.length; i++) {
            arguments[i] = numbers[i];
        }
        String got = answer(x, method, arguments);
        String want = answer(m, PlainModel.class.getMethod(method.getName(), method.getParameterTypes()), arguments);
        asked++;
        told.append("\n  ").append(method.getName()).append(java.util.Arrays.toString(numbers)).append(" answered ").append(got);
        if (!got.equals(want)) {
            told.append(", the model ").append(want);
        }
        return got.equals(want);
    }

    private static String answer(Object of, Method method, Object[] arguments) throws Exception {
        try {
            return String.valueOf(method.invoke(of, arguments));
        } catch (InvocationTargetException e) {
            if (of instanceof PlainModel && !(e.getCause() instanceof NoSuchElementException)) {
                throw e;
            }
            return "throws " + e.getCause().getClass().getSimpleName();
        }
    }

    private boolean sameRow(CoffeeThatSlops x, PlainModel m) {
        if (x.count(7) != m.count(7)) {
            told.append(": the ROW has ").append(x.count(7)).append(" numbers, the model's ").append(m.count(7));
            return false;
        }
        for (int i = 0; i < x.count(7); i++) {
            if (x.row(i) != m.row(i)) {
                told.append(": row(" + i + ") is ").append(x.row(i)).append(", the model's ").append(m.row(i));
                return false;
            }
        }
        return true;
    }

    private int[] arguments(Method method) {
        int[] all = new int[method.getParameterCount()];
        for (int i = 0; i < all.length; i++) {
            all[i] = roll(40) == 0 ? odd() : usual(method.getName(), i);
        }
        if (method.getName().equals("set")) {
            int[][] bounds = {{1, 16}, {0, 12}, {0, 4}, {0, 20}, {0, 60}, {0, 20}, {0, 3}};
            all[0] = roll(7);
            all[1] = roll(20) == 0 ? odd() : roll(bounds[all[0]][0], bounds[all[0]][1]);
        }
        return all;
    }

    private int odd() {
        int[] odd = {-1, 0, 1, 2, 3, 4, 5, 20, 21, 99, 100, 101, 200, 201, 400, 401, 500, 501, -500, -501, 999, 1000, 1001,
            5000, 5001, 9999, 10000, Integer.MAX_VALUE, Integer.MIN_VALUE, -2};
        return odd[roll(odd.length)];
    }

    private int usual(String call, int i) {
        switch (call) {
            case "wall": case "best":
                return i == 0 ? roll(7) : call.equals("best") ? roll(7) : roll(101);
            case "sheet":
                return i == 0 ? roll(4) : i == 1 ? roll(-1, 7) : i == 2 ? roll(-300, 300) : roll(-40, 40);
            case "tilt":
                return i == 0 ? roll(2) : roll(-60, 60);
            case "tick":
                return roll(-250, 250);
            case "cell": case "of":
                return i == 0 ? roll(2) : call.equals("cell") && i == 1 ? roll(8) : i == 2 ? roll(2) : roll(4);
            case "sign":
                return roll(Integer.MAX_VALUE);
            case "end":
                return roll(81);
            case "gives":
                return i == 0 ? roll(3) : roll(-500, 500);
            case "go":
                return i == 0 ? roll(4) : roll(40);
            case "swing": case "dies": case "off":
                return i == 0 ? roll(1, call.equals("swing") ? 300 : 100) : call.equals("off") && i == 2 ? roll(10) : roll(1, 100);
            case "worst":
                return roll(1, 60);
            case "would":
                return i == 0 ? roll(4) : roll(1000);
            case "leads":
                return i == 0 ? roll(4) : roll(50);
            case "plan":
                return roll(1, 120);
            case "few": case "lid":
                return i == 0 ? roll(4) : roll(100);
            case "form":
                return roll(1, 15);
            case "stop":
                return roll(1, 1500);
            case "turn": case "pause":
                return i == 0 ? roll(4) : roll(90);
            case "spot":
                return roll(80);
            case "film":
                return i == 2 ? roll(50) : roll(-200, 200);
            case "fits":
                return i == 0 ? roll(3) : roll(100);
            case "odds":
                return i == 0 ? roll(4) : roll(1, 20);
            case "count":
                return roll(10);
            default:
                return roll(4);
        }
    }

    private String randomWalk() {
        StringBuilder sb = new StringBuilder();
        int parts = roll(6);
        for (int i = 0; i < parts; i++) {
            sb.append(i == 0 ? "" : ";");
            switch (roll(5)) {
                case 0:
                    sb.append("s").append(roll(1, 12));
                    break;
                case 1:
                    sb.append("j").append(roll(2) == 0 ? "-" : "").append(roll(150));
                    break;
                case 2:
                    sb.append("w").append(roll(40));
                    break;
                default:
                    sb.append("g").append(roll(90)).append(",").append(roll(2, 20)).append(",").append(roll(90)).append("*")
                        .append(roll(30) == 0 ? roll(20, 50) : roll(1, 6));
            }
        }
        return spoilt(sb, PARTS, 70);
    }

    private String randomLaw() {
        StringBuilder sb = new StringBuilder();
        expression(sb, 0);
        return roll(12) == 0 ? "" : spoilt(sb, THINGS, 45);
    }

    private void expression(StringBuilder sb, int depth) {
        int terms = roll(1, 4);
        for (int i = 0; i < terms; i++) {
            sb.append(i == 0 ? "" : "+-*/".charAt(roll(4)));
            sb.append(roll(6) == 0 ? "-" : "");
            int kind = roll(8);
            if (kind == 0 && depth < 5) {
                sb.append("(");
                expression(sb, depth + 1);
                sb.append(")");
            } else if (kind < 3) {
                sb.append(roll(roll(2) == 0 ? 10 : 1000));
            } else {
                sb.append("ppssth f".replace(" ", "").charAt(roll(7)));
            }
        }
    }

    /** Now and then a text with a sign too many, too few or another one, or cut; never more than 80 signs. */
    private String spoilt(StringBuilder sb, String signs, int longest) {
        if (roll(4) == 0 && sb.length() > 0) {
            int at = roll(sb.length());
            switch (roll(4)) {
                case 0:
                    sb.deleteCharAt(at);
                    break;
                case 1:
                    sb.insert(at, signs.charAt(roll(signs.length())));
                    break;
                case 2:
                    sb.setCharAt(at, signs.charAt(roll(signs.length())));
                    break;
                default:
                    sb.setLength(at);
            }
        }
        if (sb.length() > longest) {
            sb.setLength(longest);
        }
        return sb.toString();
    }
}
