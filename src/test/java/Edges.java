import java.lang.reflect.InvocationTargetException;
import java.lang.reflect.Method;
import java.util.ArrayList;
import java.util.HashMap;
import java.util.List;
import java.util.Map;
import java.util.Objects;
import java.util.Set;

/**
 * Sentences of the document, each with a script: calls on a new LockTable, a line each, with the answers that are due.
 *
 * <pre>
 *   ask 0 1 5 = 1          a call and its answer (without "=": it is not looked at)
 *   3 x ask 0 1 5 = 1      three times
 *   tree -1 0 0b           thing(-1, 0) = 0, thing(0, 0) = 1, thing(0, 1) = 2
 *   feeds 's0 1'           feed() of each letter
 *   reads 's0 1' = 1       likewise, then reads()
 *   spells = '0:0s '       spells(), and all bytes of THE PAPER
 *   paper = '0:0s '        all bytes of THE PAPER
 *   fill 0 7 8 9           list(0, 3) = 1 and set() of each place
 *   row 0 = 7 8 9          get() of each place, and that there are no more
 * </pre>
 *
 * What stands behind a # is a comment.
 *
 * Behind each script all is played again without the calls that must change nothing (those that only look, or think,
 * those that are refused, and words with a FAULT); then whatever can be seen of the object must be the same.
 */
final class Edges {
    private static final int MOST_CALLS = 512;
    private static final Map<String, Long> NAMED = new HashMap<>(Map.of("BAD", -1L, "NOT", -2L, "FULL", -3L,
        "STATE", -5L, "NOTHING", -11L, "OUTSIDE", -12L, "BEYOND", -13L, "BELOW", -14L));
    private static final Set<String> CHANGING = Set.of("thing", "ask", "give", "leaves", "forgets", "breaks", "plan",
        "weighs", "plunges", "bell", "feed", "reads", "spells", "list", "set", "does", "into", "image", "back");
    private static final Map<String, Method> FACE = new HashMap<>();

    static {
        NAMED.put("NO", Long.MIN_VALUE);
        NAMED.put("MIN", (long) Integer.MIN_VALUE);
        NAMED.put("MAX", (long) Integer.MAX_VALUE);
        for (Method m : LockTable.class.getDeclaredMethods()) FACE.put(m.getName(), m);
    }

    private final String name;
    private int sentences = 0;
    private int looked = 0;
    private int wrong = 0;

    Edges(String name) {
        this.name = name;
    }

    /** How many were wrong. */
    int end() {
        System.out.println(name + ": " + sentences + " sentences, " + looked + " answers, " + wrong + " wrong");
        return wrong;
    }

    void edge(String sentence, String script) {
        sentences++;
        List<Call> calls = new ArrayList<>();
        for (String line : script.split("\n")) {
            String told = line.replaceAll("(^|\\s)#.*", "").strip();
            if (!told.isEmpty()) parse(told, calls);
        }
        Table table = new Table();
        for (Call call : calls) due(sentence, call, table.does(call));
        List<Call> lean = lean(calls);
        if (lean.size() < calls.size()) changesNothing(sentence, calls, lean);
    }

    /** A line for each of the values, that stand in it where there is a question mark. */
    static String each(String line, String... values) {
        StringBuilder all = new StringBuilder();
        for (String value : values) all.append(line.replace("?", value)).append('\n');
        return all.toString();
    }

    private void due(String sentence, Call call, long got) {
        if (call.due == null) return;
        looked++;
        if (got == call.due) return;
        wrong++;
        System.out.println(sentence + ": " + call + " answered " + got + ", due is " + call.due);
    }

    private void changesNothing(String sentence, List<Call> calls, List<Call> lean) {
        for (int part = 0; part < Table.PARTS; part++) {
            String all = replayed(calls).look(part);
            String without = replayed(lean).look(part);
            looked++;
            if (Objects.equals(all, without)) continue;
            wrong++;
            System.out.println(sentence + ": a call that must change nothing did:\n  " + all + "\n  for\n  " + without);
        }
    }

    private static List<Call> lean(List<Call> calls) {
        List<Call> lean = new ArrayList<>();
        for (Call call : calls) {
            if (call.name.equals("reads")) {
                // THE TAPE is empty behind it in any case
                if (call.due != null && call.due < 0) dropFed(lean);
                else lean.add(call);
            } else if (call.changes()) {
                lean.add(call);
            }
        }
        return lean;
    }

    private static void dropFed(List<Call> calls) {
        for (int k = calls.size() - 1; k >= 0 && !calls.get(k).name.equals("reads"); k--) {
            if (calls.get(k).name.equals("feed")) calls.remove(k);
        }
    }

    private static Table replayed(List<Call> calls) {
        Table table = new Table();
        for (Call call : calls) table.does(call);
        return table;
    }

    // ---- scripts

    private record Call(String name, int[] args, Long due) {
        boolean changes() {
            if (!CHANGING.contains(name)) return false;
            // where a part is BARE, gates have counted it
            return due == null || due >= 0 || name.equals("weighs") && due == NAMED.get("NOTHING");
        }

        @Override
        public String toString() {
            StringBuilder all = new StringBuilder(name).append('(');
            for (int k = 0; k < args.length; k++) all.append(k > 0 ? ", " : "").append(args[k]);
            return all.append(')').toString();
        }
    }

    private static void parse(String line, List<Call> calls) {
        String rest = line;
        int times = 1;
        if (rest.matches("[0-9]+ x .*")) {
            times = Integer.parseInt(rest.substring(0, rest.indexOf(' ')));
            rest = rest.substring(rest.indexOf(" x ") + 3);
        }
        for (int k = 0; k < times; k++) parseOne(rest, calls);
    }

    private static void parseOne(String line, List<Call> calls) {
        String quoted = line.contains("'") ? line.substring(line.indexOf('\'') + 1, line.lastIndexOf('\'')) : null;
        String plain = quoted == null ? line : line.replace("'" + quoted + "'", "").strip();
        int equals = plain.indexOf('=');
        String[] head = (equals < 0 ? plain : plain.substring(0, equals)).strip().split(" +");
        String[] tail = equals < 0 ? new String[0] : plain.substring(equals + 1).strip().split(" +");
        if (equals >= 0 && tail[0].isEmpty()) tail = new String[0];
        switch (head[0]) {
            case "tree" -> tree(head, calls);
            case "feeds" -> feeds(quoted, calls);
            case "fill" -> fill(head, calls);
            case "row" -> row((int) number(head[1]), tail, calls);
            default -> {
                if (quoted != null && head[0].equals("reads")) feeds(quoted, calls);
                if (quoted != null && !head[0].equals("reads")) paper(head[0].equals("spells"), quoted, calls);
                else plain(head, tail, calls);
            }
        }
    }

    private static long number(String text) {
        return NAMED.containsKey(text) ? NAMED.get(text) : Long.parseLong(text);
    }

    private static void add(List<Call> calls, String name, Long due, int... args) {
        if (!FACE.containsKey(name) || FACE.get(name).getParameterCount() != args.length) {
            throw new IllegalArgumentException("no such call: " + name);
        }
        calls.add(new Call(name, args, due));
    }

    private static void plain(String[] head, String[] tail, List<Call> calls) {
        int[] args = new int[head.length - 1];
        for (int k = 0; k < args.length; k++) args[k] = (int) number(head[k + 1]);
        add(calls, head[0], tail.length == 0 ? null : Long.valueOf(number(tail[0])), args);
    }

    private static void tree(String[] head, List<Call> calls) {
        for (int k = 1; k < head.length; k++) {
            boolean bare = head[k].endsWith("b");
            int whole = Integer.parseInt(bare ? head[k].substring(0, head[k].length() - 1) : head[k]);
            add(calls, "thing", (long) k - 1, whole, bare ? 1 : 0);
        }
    }

    private static void feeds(String letters, List<Call> calls) {
        for (char letter : letters.toCharArray()) add(calls, "feed", null, letter);
    }

    private static void paper(boolean anew, String letters, List<Call> calls) {
        if (anew) add(calls, "spells", (long) letters.length());
        add(calls, "count", (long) letters.length(), 5);
        for (int k = 0; k < letters.length(); k++) add(calls, "paper", (long) letters.charAt(k), k);
        add(calls, "paper", -2L, letters.length());
    }

    private static void fill(String[] head, List<Call> calls) {
        int list = Integer.parseInt(head[1]);
        add(calls, "list", 1L, list, head.length - 2);
        for (int k = 2; k < head.length; k++) add(calls, "set", 1L, list, k - 2, (int) number(head[k]));
    }

    private static void row(int list, String[] tail, List<Call> calls) {
        for (int k = 0; k < tail.length; k++) add(calls, "get", number(tail[k]), list, k);
        add(calls, "get", Long.MIN_VALUE, list, tail.length);
    }

    // ---- an object, and what can be seen of it

    /** A LockTable that is never used for more calls than the document tells of. */
    private static final class Table {
        static final int PARTS = 6;
        private final LockTable x = new LockTable();
        private int calls = 0;
        private StringBuilder seen = new StringBuilder();

        long does(Call call) {
            return call(call.name, call.args);
        }

        private long call(String name, int... args) {
            calls++;
            if (calls > MOST_CALLS) throw new IllegalStateException("more than " + MOST_CALLS + " calls");
            Object[] all = new Object[args.length];
            for (int k = 0; k < args.length; k++) all[k] = args[k];
            try {
                return ((Number) FACE.get(name).invoke(x, all)).longValue();
            } catch (IllegalAccessException | InvocationTargetException e) {
                throw new IllegalStateException(name, e.getCause() == null ? e : e.getCause());
            }
        }

        private void see(String name, int... args) {
            seen.append(' ').append(call(name, args));
        }

        /** What can be seen, in parts, as looking changes the object, and as there are no more than 512 calls. */
        String look(int part) {
            switch (part) {
                case 0 -> seeThings();
                case 1 -> seePaperAndLists();
                case 2 -> seeThought();
                case 3 -> seePlan();
                case 4 -> seeTape();
                default -> seeImage();
            }
            return seen.toString();
        }

        private void seeThings() {
            for (int what = 0; what <= 6; what++) see("count", what);
            long things = call("count", 0);
            for (int thing = 0; thing < things; thing++) {
                for (int what = 0; what <= 5; what++) see("thingOf", thing, what);
                for (int what = 0; what <= 1; what++) see("gate", thing, what);
            }
            seeLine();
        }

        private void seeLine() {
            for (int k = 0; k <= 5; k++) {
                see("line", k);
                see("waits", k);
            }
        }

        private void seeHolds() {
            long length = call("spells");
            seen.append(' ');
            for (int k = 0; k < length; k++) seen.append((char) call("paper", k));
        }

        private void seePaperAndLists() {
            long length = call("count", 5);
            for (int k = 0; k < length; k++) see("paper", k);
            for (int list = 0; list <= 2; list++) {
                see("set", list, -1, 0);
                long got = 0;
                for (int k = 0; k <= 36 && got != Long.MIN_VALUE; k++) {
                    got = call("get", list, k);
                    seen.append(' ').append(got);
                }
            }
        }

        private void seeThought() {
            seePlays();
            for (int what = 0; what <= 1; what++) see("lots", 60, 77, what);
            seeHolds();
        }

        /** No call tells the rows themselves: they are played while others hold some of the THINGS. */
        private void seePlan() {
            see("count", 3);
            for (int owner = 0; owner <= 5; owner++) see("leaves", owner);
            seePlays();
            int things = (int) call("count", 0);
            for (int holder = 0; holder <= 5; holder += 5) {
                for (int mode = 2; mode <= 5; mode++) {
                    for (int thing = 0; thing < things; thing++) call("ask", holder, thing, mode);
                    seePlays();
                    call("leaves", holder);
                }
                for (int thing = 0; thing < things; thing++) {
                    call("ask", holder, thing, 5);
                    seePlays();
                    call("leaves", holder);
                }
            }
        }

        private void seePlays() {
            for (int what = 0; what <= 2; what++) see("plays", what);
        }

        private void seeTape() {
            see("reads");
            see("count", 0);
            see("count", 1);
            seeHolds();
        }

        private void seeImage() {
            see("back");
            for (int what = 0; what <= 3; what++) see("count", what);
            seePlays();
            seeLine();
            seeHolds();
        }
    }
}
