import java.lang.reflect.InvocationTargetException;
import java.lang.reflect.Method;
import java.util.Arrays;
import java.util.LinkedHashMap;
import java.util.Map;

/** Calls of the program by their names. */
final class Face {
    /** Each call of the document, and how many arguments it takes. */
    static final Map<String, Integer> CALLS = new LinkedHashMap<>();
    private static final Map<String, Method> METHODS = new LinkedHashMap<>();

    static {
        String[] told = {"paint 3", "lines 4", "ground 2", "value 2", "insert 3", "remove 2", "copy 3", "sort 3", "move 3",
            "tidy 1", "rule 4", "drop 1", "bring 2", "paste 5", "run 1", "undo 0", "redo 0", "before 3", "shown 2",
            "under 3", "by 2", "valueAt 1", "holds 2", "ruleOf 2", "idle 0", "rects 1", "rect 3", "lies 2", "would 3",
            "drawn 4", "all 2", "many 3", "greatest 3", "alike 1", "looks 0", "stripes 1", "strokes 2", "needless 1",
            "row 2", "put 3", "element 2", "clip 4", "feed 2", "text 0", "tests 2", "image 0", "back 0", "differs 0",
            "count 1"};
        for (String call : told) {
            String[] two = call.split(" ");
            int n = Integer.parseInt(two[1]);
            CALLS.put(two[0], n);
            Class<?>[] types = new Class<?>[n];
            Arrays.fill(types, int.class);
            try {
                METHODS.put(two[0], FewRectangles.class.getMethod(two[0], types));
            } catch (NoSuchMethodException missing) {
                throw new IllegalStateException(missing);
            }
        }
    }

    private Face() {
    }

    static int call(FewRectangles x, String name, int... a) {
        Object[] args = new Object[a.length];
        for (int i = 0; i < a.length; i++) args[i] = a[i];
        try {
            return (Integer) METHODS.get(name).invoke(x, args);
        } catch (InvocationTargetException thrown) {
            throw new IllegalStateException(name + Arrays.toString(a) + " threw", thrown.getCause());
        } catch (IllegalAccessException unreachable) {
            throw new IllegalStateException(unreachable);
        }
    }

    static String told(String name, int... a) {
        return name + Arrays.toString(a).replace('[', '(').replace(']', ')');
    }

    /** Puts a text on THE TAPE, behind what is there; what the last call answered. */
    static int feed(FewRectangles x, String text) {
        int answer = 0;
        for (int at = 0; at < text.length(); at += 4) {
            int n = Math.min(4, text.length() - at), word = 0;
            for (int k = 0; k < n; k++) word |= text.charAt(at + k) << 8 * k;
            answer = x.feed(n, word);
        }
        return answer;
    }
}
