import java.lang.reflect.Method;
import java.util.ArrayList;
import java.util.HashMap;
import java.util.List;
import java.util.Map;
import java.util.Random;

/** Long runs of drawn calls, the same on the program and on the model; the draws are always the same. */
public final class RowRingAgainstModelTest {
    private static final int RUNS = 600;
    private static final int CALLS = 512;

    private final Random random;
    private final RowRing ring = new RowRing();
    private final RowRingModel model = new RowRingModel();
    private final List<String> log = new ArrayList<>();
    private int calls;

    private static final Map<String, Method> RING = new HashMap<>();
    private static final Map<String, Method> MODEL = new HashMap<>();
    private static final Map<String, Map<String, Integer>> ANSWERS = new HashMap<>();

    private RowRingAgainstModelTest(long seed) {
        random = new Random(seed);
    }

    public static void main(String[] args) throws Exception {
        for (Method m : RowRing.class.getMethods()) {
            if (m.getDeclaringClass() == RowRing.class) {
                RING.put(m.getName(), m);
                MODEL.put(m.getName(), RowRingModel.class.getMethod(m.getName(), m.getParameterTypes()));
            }
        }
        int wrong = 0;
        int runs = args.length > 0 ? Integer.parseInt(args[0]) : RUNS;
        for (int seed = 0; seed < runs && wrong < 5; seed++) {
            RowRingAgainstModelTest run = new RowRingAgainstModelTest(seed);
            if (!run.play()) {
                wrong++;
                System.out.println("run " + seed + ": call " + run.calls + " is not as in the model");
                run.log.stream().skip(Math.max(0, run.log.size() - 40)).forEach(System.out::println);
            }
        }
        if (args.length > 1) {
            ANSWERS.forEach((k, v) -> System.out.println(k + " " + v));
        }
        System.out.println(wrong == 0 ? runs + " runs are as in the model" : wrong + " runs are not");
        if (wrong != 0) {
            System.exit(1);
        }
    }

    private boolean play() throws Exception {
        while (calls < CALLS) {
            boolean fine = calls < 30 || random.nextInt(18) == 0 ? tell() : ask();
            if (!fine) {
                return false;
            }
        }
        return true;
    }

    private boolean call(String name, int... args) throws Exception {
        calls++;
        Integer[] boxed = new Integer[args.length];
        StringBuilder text = new StringBuilder(name).append('(');
        for (int i = 0; i < args.length; i++) {
            boxed[i] = args[i];
            text.append(i > 0 ? ", " : "").append(args[i]);
        }
        Object want = MODEL.get(name).invoke(model, (Object[]) boxed);
        Object got = RING.get(name).invoke(ring, (Object[]) boxed);
        log.add(text.append(") answered ").append(got).append(", due is ").append(want).toString());
        String kind = (int) want > 0 ? "+" : String.valueOf((int) want < -3 ? "fault" : want);
        String last = args.length > 0 ? "/" + Math.min(5, Math.max(-2, args[args.length - 1])) : "";
        ANSWERS.computeIfAbsent(name + last, k -> new HashMap<>()).merge(kind, 1, Integer::sum);
        return got.equals(want);
    }

    private boolean feed(String text) throws Exception {
        log.add("text: " + text);
        boolean fine = random.nextInt(8) != 0 ? call("end", 0) : call("count", 13);
        for (int i = 0; i < text.length(); i += 20) {
            fine &= call("feed", RowRingChecks.twenty(text, i));
        }
        return fine & call("end", text.length());
    }

    private boolean tell() throws Exception {
        boolean smithy = calls < 12 || random.nextInt(5) == 0;
        String text = smithy ? smithyText() : ruleText();
        if (random.nextInt(4) == 0) {
            text = spoil(text);
        }
        boolean fine = feed(text.length() > 400 ? text.substring(0, 400) : text);
        return fine && call(smithy ? "smith" : "rule") && call("count", 13);
    }

    private String spoil(String text) {
        StringBuilder b = new StringBuilder(text);
        String signs = " ;[]<=>+-*/%0123456789abnotXz|\u00e9";
        for (int i = random.nextInt(3); i >= 0; i--) {
            int at = random.nextInt(b.length() + 1);
            int kind = random.nextInt(5);
            if (kind == 0 && at < b.length()) {
                b.deleteCharAt(at);
            } else if (kind == 1) {
                b.insert(at, signs.charAt(random.nextInt(signs.length())));
            } else if (kind == 2) {
                b.setLength(at);
            } else if (kind == 3) {
                String[] words = {"not ", " and ", "123456", "smith 1 1", " pair 0 1 ", ";", "say 1;", "  ", " or "};
                b.insert(at, words[random.nextInt(words.length)]);
            } else if (at < b.length()) {
                b.setCharAt(at, signs.charAt(random.nextInt(signs.length())));
            }
        }
        return b.toString();
    }

    private String blank() {
        return random.nextInt(6) == 0 ? "  " : " ";
    }

    private String smithyText() {
        StringBuilder b = new StringBuilder("smith ");
        // Mostly narrow bands, so that pairs are without one often enough.
        int widest = random.nextInt(3) == 0 ? 99 : 12;
        b.append(1 + random.nextInt(widest)).append(blank()).append(1 + random.nextInt(9));
        int pairs = random.nextInt(7) == 0 ? random.nextInt(7) : 2 + random.nextInt(4);
        int sayings = random.nextInt(7) == 0 ? random.nextInt(8) : 2 + random.nextInt(5);
        int hard = random.nextInt(4) == 0 ? 9 : 20 + random.nextInt(80);
        for (int p = 0; p < pairs; p++) {
            int breaks = 1 + random.nextInt(hard);
            int temper = random.nextInt(random.nextInt(5) == 0 ? 100 : breaks);
            b.append(";pair ").append(temper).append(blank()).append(breaks);
        }
        for (int s = 0; s < sayings; s++) {
            b.append(";").append(blank()).append("saying").append(random.nextInt(10));
        }
        int more = random.nextInt(10) == 0 ? 45 : random.nextInt(14);
        for (int i = 0; i < more; i++) {
            int p = random.nextInt(Math.max(1, Math.min(5, pairs)));
            if (random.nextBoolean()) {
                int s = random.nextInt(Math.max(1, Math.min(6, sayings)));
                b.append(";minds").append(p).append(' ').append(s).append(' ').append(random.nextInt(21));
            } else {
                int q = random.nextInt(Math.max(1, Math.min(5, pairs)));
                b.append(";near").append(p).append(' ').append(q == p ? (p + 1) % Math.max(2, pairs) : q);
            }
        }
        return b.toString();
    }

    private String ruleText() {
        StringBuilder b = new StringBuilder();
        int clauses = random.nextInt(12) == 0 ? 10 + random.nextInt(5) : 1 + random.nextInt(4);
        for (int c = 0; c < clauses; c++) {
            b.append(c > 0 ? ";" : "").append("say ").append(sum(clauses > 9 ? 1 : 4));
            if (random.nextInt(clauses > 9 ? 6 : 2) == 0) {
                b.append(" if ").append(test(random.nextInt(8) == 0 ? 14 : 4));
            }
        }
        return b.toString();
    }

    private String sum(int most) {
        String[] words = {"pair", "saying", "temper", "breaks", "hurt", "minds", "said", "near", "bands", "rows",
            "day"};
        StringBuilder b = new StringBuilder();
        for (int i = random.nextInt(most); i >= 0; i--) {
            boolean word = random.nextInt(3) != 0;
            b.append(word ? words[random.nextInt(words.length)]
                : String.valueOf(random.nextInt(random.nextInt(9) == 0 ? 99999 : 20)));
            if (i > 0) {
                b.append(random.nextBoolean() ? " " : "").append("+-*/%".charAt(random.nextInt(5)));
            }
        }
        return b.toString();
    }

    private String test(int deep) {
        int kind = random.nextInt(deep > 10 ? 4 : 8);
        if (deep > 0 && kind <= 1) {
            return "not " + test(deep - 1);
        }
        if (deep > 0 && kind <= 3) {
            return "[" + test(deep - 1) + "]";
        }
        if (deep > 0 && kind == 4) {
            return test(deep - 2) + " and " + test(deep - 2);
        }
        if (deep > 0 && kind == 5) {
            return test(deep - 2) + " or " + test(deep - 2);
        }
        String[] signs = {"<", "<=", "=", ">=", ">"};
        return sum(2) + signs[random.nextInt(5)] + sum(2);
    }

    /** Mostly between least and most, now and then beside them. */
    private int some(int least, int most) {
        int draw = random.nextInt(60);
        if (draw == 0) {
            return least - 1;
        }
        if (draw == 1) {
            return most + 1;
        }
        if (draw == 2) {
            return random.nextBoolean() ? Integer.MIN_VALUE : Integer.MAX_VALUE;
        }
        if (draw < 6) {
            return draw % 2 == 0 ? least : most;
        }
        return least + random.nextInt(most - least + 1);
    }

    private int aPair() {
        return some(0, Math.max(0, model.count(2) - 1));
    }

    private int aSaying() {
        return some(0, Math.max(0, model.count(3) - 1));
    }

    private boolean ask() throws Exception {
        switch (random.nextInt(38)) {
            case 0: return call("pair", aPair(), some(0, 4));
            case 1: return call("saying", aPair(), aSaying(), some(0, 1));
            case 2: case 3: case 4: return call("day");
            case 5: return call("say", aPair(), aSaying());
            case 6: return call("soothe", aPair(), some(1, 20));
            case 7: return call("door");
            case 8: return call("undo");
            case 9: return call("ahead", aPair(), some(0, 100), some(0, 2));
            case 10: case 11: return call("quarrel", aPair(), some(0, 1));
            case 12: case 13: return bringOne();
            case 14: return call("smooth", aPair());
            case 15: return call("strike", some(1, 30), some(0, 1));
            case 16: return call("home", some(1, 30), some(0, 1));
            case 17: return call("benches", some(-1, 4));
            case 18: return call("gold", some(0, 9999), aPair());
            case 19: case 20: return call("heard", aPair(), aSaying(), some(0, 1));
            case 21: case 22: return call("game", aPair(), some(1, 4), some(0, 1));
            case 23: return call("spark", aPair());
            case 24: return call("calm", some(1, 30), some(0, 1));
            case 25: return call("largest", some(1, 60), some(0, 2));
            case 26: return noteOne();
            case 27: return call("ruled", some(0, 1));
            case 28: return call("look", some(0, 60), some(0, 1));
            case 29: return call("seed", some(0, Integer.MAX_VALUE - 1));
            case 30: return call("doors", some(1, 10), some(1, 60), some(0, 100), some(0, 1));
            case 31: case 32: return call("count", some(0, 13));
            case 33: return call("image", some(0, 3));
            case 34: return random.nextInt(4) != 0 || call("back", some(0, 3));
            case 35: return call("force", some(-1, Math.max(0, model.count(4) - 1)));
            case 36: return allOfState();
            default: return random.nextInt(5) != 0 || call("end", some(0, 400));
        }
    }

    private boolean bringOne() throws Exception {
        int pair = aPair();
        int breaks = Math.max(1, model.pair(pair, 1));
        int size = random.nextInt(4) == 0 ? some(1, 120) : some(breaks, breaks + 12);
        return call("bring", pair, size, some(0, 1));
    }

    private boolean noteOne() throws Exception {
        if (random.nextInt(6) == 0) {
            return call("note", -1, some(0, 4), 0);
        }
        int pair = aPair();
        int n = some(0, 60);
        // Now and then as it is with the rule in force at the begin, so that notes hold more often.
        int wide = random.nextInt(4) == 0 ? some(0, 99) : Math.max(0, model.ahead(pair, n + 1, 1));
        return call("note", n, pair, wide);
    }

    private boolean allOfState() throws Exception {
        boolean fine = true;
        for (int what = 0; what < 14; what++) {
            fine &= call("count", what);
        }
        for (int p = 0; p < model.count(2); p++) {
            for (int what = 0; what < 4; what++) {
                fine &= call("pair", p, what);
            }
        }
        return fine;
    }
}
