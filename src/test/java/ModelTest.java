import java.util.ArrayList;
import java.util.List;

/** Long runs of made calls, answered by the program as by the model. */
final class ModelTest {
    private static final int RUNS = 600, CALLS = 512;
    private final Check check = new Check("ModelTest");
    private final List<String> requests = List.of("paint", "paint", "paint", "paint", "lines", "ground", "value", "value",
            "insert", "remove", "copy", "sort", "move", "tidy", "rule", "rule", "drop", "bring", "paste", "paste", "run", "run");
    private final List<String> looks = new ArrayList<>();

    private FewRectangles program;
    private Model model;
    private Maker maker;
    private String run;
    private int calls;

    private ModelTest() {
        for (String name : Face.CALLS.keySet()) {
            if (!requests.contains(name) && !name.equals("back")) looks.add(name);
        }
    }

    public static void main(String[] args) {
        ModelTest test = new ModelTest();
        int runs = args.length > 0 ? Integer.parseInt(args[0]) : RUNS;
        for (int k = 0; k < runs; k++) test.run(k);
        test.check.end();
    }

    private void run(int seed) {
        program = new FewRectangles();
        model = new Model();
        maker = new Maker(seed);
        run = "run " + seed + " ";
        calls = 0;
        begin(seed % 6);
        while (calls < CALLS - 60 && check.wrong() == 0) one();
        lookAtAll();
    }

    /** Sheets of unlike sizes, with values to look at and places for clips. */
    private void begin(int kind) {
        if (kind == 1) {
            ask("insert", 0, 8, 8);
            ask("insert", 1, 8, 8);
        } else if (kind == 2) {
            ask("remove", 0, 206);
            ask("remove", 1, 107);
        } else if (kind == 3) {
            ask("insert", 1, 4, 8);
        }
        for (int k = 0; k < 20; k++) ask("value", maker.arguments("value"));
        ask("row", 0, 60);
    }

    private void one() {
        maker.high = model.call("count", 0);
        maker.wide = model.call("count", 1);
        maker.rules = model.call("count", 2);
        maker.undoable = model.call("count", 3);
        int kind = maker.rnd(40);
        if (kind < 16) {
            request(requests.get(maker.rnd(requests.size())));
        } else if (kind == 16) {
            if (model.call("count", 5) < 4 || maker.rnd(8) == 0) feed(maker.program());
            ask("text");
        } else if (kind == 17) {
            for (int n = 1 + maker.rnd(4); n > 0; n--) ask("undo");
            if (maker.rnd(2) == 0) ask("redo");
        } else if (kind == 18) {
            for (int n = 1 + maker.rnd(4); n > 0; n--) ask("redo");
        } else if (kind == 19 && maker.rnd(4) == 0) {
            ask("back");
        } else if (kind == 20) {
            ask("clip", 0, 0, maker.rnd(2), maker.arguments("would")[2]);
            ask("paste", 0, 0, 1 + maker.rnd(3), maker.rnd(2), 100 * maker.rnd(maker.high) + maker.rnd(maker.wide));
        } else if (kind > 20 && kind < 28 && maker.rules > 0) {
            String name = List.of("holds", "ruleOf", "by", "shown", "before", "alike", "differs").get(kind - 21);
            ask(name, maker.arguments(name));
        } else {
            String name = looks.get(maker.rnd(looks.size()));
            if (!name.equals("feed") || maker.rnd(6) == 0) ask(name, maker.arguments(name));
        }
    }

    private void request(String name) {
        if (name.equals("rule") && (maker.rules < 6 || maker.rnd(8) == 0)) feed(maker.condition());
        if ((name.equals("drop") || name.equals("remove")) && maker.rules < 3 && maker.rnd(3) > 0) return;
        if (name.equals("run") && maker.rnd(2) == 0) {
            int program = maker.rnd(4);
            for (int what = 0; what < 4; what++) ask("tests", program, what);
            ask("run", program);
        } else {
            ask(name, maker.arguments(name));
        }
    }

    private void feed(String text) {
        for (int at = 0; at < text.length(); at += 4) {
            int n = Math.min(4, text.length() - at), word = 0;
            for (int k = 0; k < n; k++) word |= text.charAt(at + k) << 8 * k;
            ask("feed", n, word);
        }
    }

    private void lookAtAll() {
        for (int what = 0; what < 7; what++) ask("count", what);
        ask("idle");
        ask("looks");
        for (int p = 0; p < 4; p++) ask("rects", p);
        for (int r = 0; r < 16; r++) ask("shown", 100 * r + maker.rnd(8), maker.rnd(4));
        for (int k = 0; k < 6; k++) ask("ruleOf", k, 0);
    }

    private void ask(String name, int... a) {
        if (check.wrong() > 0) return;
        calls++;
        int answer = Face.call(program, name, a);
        check.due(run + "call " + calls + " " + Face.told(name, a), answer, model.call(name, a));
    }
}
