import java.lang.reflect.InvocationTargetException;
import java.lang.reflect.Method;
import java.util.ArrayList;
import java.util.HashMap;
import java.util.List;
import java.util.Map;

/** Random runs of calls, up to 512 each, on the class and on the plain model: every answer is the same. */
public final class AgainstModelTest {
    private static final int RUNS = 1500;

    private final ThreadsAndSplits asked = new ThreadsAndSplits();
    private final PlainModel model = new PlainModel();
    private final List<String> told = new ArrayList<>();
    private final Script script;
    private int left = 512;
    private boolean differs;

    private static final List<Method> FACE = Script.face();
    private static final Map<String, Method> ASKED = new HashMap<>();
    private static final Map<String, Method> MODEL = new HashMap<>();
    private static final Map<String, Integer> ACCEPTED = new HashMap<>();

    private AgainstModelTest(long seed) {
        script = new Script(seed);
    }

    private void call(String name, Integer... args) throws Exception {
        if (left == 0 || differs) {
            return;
        }
        left--;
        Object due = MODEL.get(name).invoke(model, (Object[]) args);
        Object got;
        try {
            got = ASKED.get(name).invoke(asked, (Object[]) args);
        } catch (InvocationTargetException e) {
            got = e.getCause();
        }
        told.add(name + java.util.Arrays.toString(args) + " = " + got);
        if (!due.equals(got)) {
            differs = true;
            System.out.println(String.join("\n", told) + ", due is " + due);
        }
        if (due instanceof Number n && n.longValue() >= -1) {
            ACCEPTED.merge(name, 1, Integer::sum);
        }
    }

    private void anyText() throws Exception {
        for (Integer[] feed : Script.feeds(script.text())) {
            call("feed", feed);
        }
        call("text");
        call("force", Script.boxed(script.below(6)));
    }

    private void cell(int s, int i, int v) throws Exception {
        call("cell", Script.boxed(s, i, v));
    }

    /** A sheet that is nearly as the pot is, so that tests of it have something to find. */
    private void nearlyRight() throws Exception {
        int s = script.below(4);
        int n = model.acts.size();
        call("film", Script.boxed(s));
        if (script.below(2) == 0) {
            call("sheet", Script.boxed(s, script.below(3), n));
            for (int a = 0; a < n; a++) {
                cell(s, a, model.pot(a + 1, script.below(2) == 0 ? 13 : 4));
            }
        }
        if (script.below(2) == 0) {
            call("set", Script.boxed(2, script.from(1, 9)));
        }
        call("judge", Script.boxed(s));
        call("which", Script.boxed(s));
        call("ages", Script.boxed(script.below(4), s));
    }

    private void start() throws Exception {
        for (int i = script.below(4); i >= 0; i--) {
            call("cheese", script.likely("cheese", 0, 0));
        }
        if (script.below(3) > 0) {
            anyText();
        }
        for (int i = script.from(2, 12); i > 0; i--) {
            call("act", script.likely("act", 0, model.cheeses.size()));
        }
    }

    private boolean run() throws Exception {
        start();
        while (left > 0 && !differs) {
            int pick = script.below(100);
            if (pick == 0) {
                anyText();
            } else if (pick < 3) {
                nearlyRight();
            } else {
                String name = FACE.get(script.below(FACE.size())).getName();
                Integer[] args = pick < 6 ? script.anyArguments(ASKED.get(name).getParameterCount())
                    : script.likely(name, model.acts.size(), model.cheeses.size());
                call(name, pick < 20 ? script.oneOff(args) : args);
            }
        }
        return !differs;
    }

    public static void main(String[] args) throws Exception {
        for (Method m : FACE) {
            ASKED.put(m.getName(), m);
            MODEL.put(m.getName(), PlainModel.class.getMethod(m.getName(), m.getParameterTypes()));
        }
        int runs = args.length > 0 ? Integer.parseInt(args[0]) : RUNS;
        long first = args.length > 1 ? Long.parseLong(args[1]) : 1;
        for (int i = 0; i < runs; i++) {
            if (!new AgainstModelTest(first + i).run()) {
                System.out.println("run " + (first + i) + " differs");
                System.exit(1);
            }
        }
        for (Method m : FACE) {
            if (ACCEPTED.getOrDefault(m.getName(), 0) < 10) {
                System.out.println("too few answers of " + m.getName());
                System.exit(1);
            }
        }
        System.out.println(runs + " runs are alike");
    }
}
