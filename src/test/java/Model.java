import java.util.ArrayList;
import java.util.HashMap;
import java.util.List;
import java.util.Map;

/**
 * The document once more, done the slow way: operands are kept label by label, nothing is flattened,
 * and a running frame keeps its own labels and looks for ENDs by counting. Made to be compared with.
 */
final class Model {
    private static final long LOW = 0xFFFFFFFFL;

    private static final class Fun {
        int parameters;
        int results;
        int locals;
        int most;
        boolean whole;
        final List<int[]> code = new ArrayList<>();

        int asks() {
            return parameters + locals + most;
        }
    }

    private static final class Lab {
        int kind;
        int parameters;
        int results;
        int own;
        boolean dead;
        boolean turned;

        int wants() {
            return kind == 3 ? parameters : results;
        }
    }

    private static final class Live {
        Fun fun;
        int pc;
        long[] locals;
        final List<Long> operands = new ArrayList<>();
        /** Where each label began (-1: the function), and its height. */
        final List<int[]> labels = new ArrayList<>();
    }

    private static final class Stop extends RuntimeException {
        final int state;
        final int trap;

        Stop(int state, int trap) {
            this.state = state;
            this.trap = trap;
        }
    }

    private final List<Fun> functions = new ArrayList<>();
    private final List<Lab> labels = new ArrayList<>();
    private final Map<Integer, Fun> table = new HashMap<>();
    private final long[] globals = new long[8];
    private final List<Long> arguments = new ArrayList<>();
    private List<Integer> memory = new ArrayList<>();
    private Fun written;
    private int due;
    private int dueWants;
    private final List<Live> frames = new ArrayList<>();
    private List<Long> results = new ArrayList<>();
    private int state;
    private int trap;
    private int steps;

    Model() {
        for (int i = 0; i < 64; i++) memory.add(0);
    }

    int function(int parameters, int results, int locals) {
        if (written != null || functions.size() == 40) return -1;
        for (int n : new int[] {parameters, results, locals}) if (n < 0 || n > 8) return -1;
        written = new Fun();
        written.parameters = parameters;
        written.results = results;
        written.locals = locals;
        functions.add(written);
        labels.clear();
        due = 0;
        Lab outermost = new Lab();
        outermost.results = results;
        labels.add(outermost);
        return functions.size() - 1;
    }

    int code(int operation, int a, int b) {
        if (written == null || instructions() >= 1500) return -1;
        if ((due > 0) != (operation == 6)) return -1;
        if (!check(operation, a, b)) return -1;
        written.code.add(new int[] {operation, a, b});
        int together = 0;
        for (Lab l : labels) together += l.own;
        written.most = Math.max(written.most, together);
        if (labels.isEmpty()) {
            written.whole = true;
            written = null;
        }
        return instructions();
    }

    private int instructions() {
        int all = 0;
        for (Fun f : functions) all += f.code.size();
        return all;
    }

    private Lab inner() {
        return labels.get(labels.size() - 1);
    }

    private Lab label(int a) {
        return a < 0 || a >= labels.size() ? null : labels.get(labels.size() - 1 - a);
    }

    private boolean swap(int taken, int put) {
        Lab l = inner();
        if (!l.dead && l.own < taken) return false;
        l.own = Math.max(0, l.own - taken) + put;
        return true;
    }

    private boolean dies() {
        inner().own = 0;
        inner().dead = true;
        return true;
    }

    private boolean mayEnd() {
        Lab l = inner();
        return l.own == l.results || l.dead && l.own <= l.results;
    }

    private boolean check(int operation, int a, int b) {
        Lab to = label(a);
        switch (operation) {
            case 0: return dies();
            case 2: case 3: case 4: {
                if (a < 0 || a > 4 || b < 0 || b > 4) return false;
                if (!swap(operation == 4 ? a + 1 : a, 0)) return false;
                Lab l = new Lab();
                l.kind = operation;
                l.parameters = a;
                l.results = b;
                l.own = a;
                labels.add(l);
                return true;
            }
            case 5: {
                Lab l = inner();
                if (l.kind != 4 || l.turned || !mayEnd()) return false;
                l.turned = true;
                l.dead = false;
                l.own = l.parameters;
                return true;
            }
            case 11: {
                Lab l = inner();
                if (!mayEnd() || l.kind == 4 && !l.turned && l.parameters != l.results) return false;
                labels.remove(labels.size() - 1);
                if (!labels.isEmpty()) inner().own += l.results;
                return true;
            }
            case 6:
                if (to == null || dueWants >= 0 && dueWants != to.wants()) return false;
                if (!inner().dead && inner().own < to.wants()) return false;
                dueWants = to.wants();
                due--;
                return due > 0 || dies();
            case 12: return to != null && swap(to.wants(), 0) && dies();
            case 13: return to != null && swap(to.wants() + 1, to.wants());
            case 14:
                if (a < 0 || a > 20 || !swap(1, 0)) return false;
                due = a + 1;
                dueWants = -1;
                return true;
            case 15: return swap(written.results, 0) && dies();
            case 16:
                if (a < 0 || a >= functions.size()) return false;
                return swap(functions.get(a).parameters, functions.get(a).results);
            case 17: return a >= 0 && a <= 8 && b >= 0 && b <= 8 && swap(a + 1, b);
            default: return checkPlain(operation, a);
        }
    }

    private boolean checkPlain(int operation, int a) {
        boolean local = a >= 0 && a < written.parameters + written.locals;
        boolean global = a >= 0 && a < 8;
        switch (operation) {
            case 1: return true;
            case 26: return swap(1, 0);
            case 27: return swap(3, 1);
            case 32: return local && swap(0, 1);
            case 33: return local && swap(1, 0);
            case 34: return local && swap(1, 1);
            case 35: return global && swap(0, 1);
            case 36: return global && swap(1, 0);
            case 63: case 65: case 66: return swap(0, 1);
            case 64: case 69: case 80: case 167: case 173: return swap(1, 1);
            case 70: case 71: case 72: case 73: case 81: case 83: case 106: case 107: case 108:
            case 110: case 113: case 116: case 124: case 125: case 126: return swap(2, 1);
            default:
                if (operation >= 40 && operation <= 53) return swap(1, 1);
                return operation >= 54 && operation <= 62 && swap(2, 0);
        }
    }

    boolean drop() {
        if (written == null) return false;
        functions.remove(functions.size() - 1);
        written = null;
        return true;
    }

    private Fun whole(int k) {
        return k < 0 || k >= functions.size() || !functions.get(k).whole ? null : functions.get(k);
    }

    boolean entry(int k, int function) {
        if (k < 0 || k > 29 || function != -1 && whole(function) == null) return false;
        table.put(k, function == -1 ? null : whole(function));
        return true;
    }

    int argument(long v) {
        if (arguments.size() == 8) return -1;
        arguments.add(v);
        return arguments.size();
    }

    boolean call(int function) {
        Fun f = whole(function);
        if (f == null || f.parameters != arguments.size()) return false;
        frames.clear();
        results = new ArrayList<>();
        steps = 0;
        state = 1;
        try {
            open(f, new ArrayList<>(arguments));
            pass();
        } catch (Stop stop) {
            state = stop.state;
        }
        arguments.clear();
        return true;
    }

    int run(int n) {
        if (n < 0 || n > 2000) return -1;
        int done = 0;
        while (done < n && state == 1) {
            done++;
            try {
                step(frames.get(frames.size() - 1));
                pass();
            } catch (Stop stop) {
                state = stop.state;
                if (stop.trap != 0) trap = stop.trap;
            }
        }
        steps += done;
        return done;
    }

    private void open(Fun f, List<Long> given) {
        int asked = f.asks();
        for (Live l : frames) asked += l.fun.asks();
        if (frames.size() == 30 || asked > 220) throw new Stop(4, 0);
        Live live = new Live();
        live.fun = f;
        live.locals = new long[f.parameters + f.locals];
        for (int i = 0; i < given.size(); i++) live.locals[i] = given.get(i);
        live.labels.add(new int[] {-1, 0});
        frames.add(live);
    }

    /** All that is no step. */
    private void pass() {
        while (true) {
            Live live = frames.get(frames.size() - 1);
            int[] x = live.fun.code.get(live.pc);
            if (x[0] == 2 || x[0] == 3) {
                begin(live, x[1]);
            } else if (x[0] == 5) {
                live.pc = endFrom(live.fun, live.pc + 1);
            } else if (x[0] == 11) {
                live.labels.remove(live.labels.size() - 1);
                live.pc++;
                if (live.labels.isEmpty() && close(live)) return;
            } else {
                return;
            }
        }
    }

    private void begin(Live live, int parameters) {
        live.labels.add(new int[] {live.pc, live.operands.size() - parameters});
        live.pc++;
    }

    private boolean close(Live live) {
        frames.remove(frames.size() - 1);
        if (live.operands.size() != live.fun.results) throw new AssertionError("results");
        if (frames.isEmpty()) {
            results = live.operands;
            state = 2;
            return true;
        }
        frames.get(frames.size() - 1).operands.addAll(live.operands);
        return false;
    }

    private static int endFrom(Fun f, int from) {
        return find(f, from, false);
    }

    /** The END, or the ELSE too, that belongs to the label that is open at from. */
    private static int find(Fun f, int from, boolean orElse) {
        int depth = 0;
        for (int i = from; i < f.code.size(); i++) {
            int operation = f.code.get(i)[0];
            if (operation >= 2 && operation <= 4) depth++;
            if (operation == 5 && depth == 0 && orElse) return i;
            if (operation == 11) {
                if (depth == 0) return i;
                depth--;
            }
        }
        throw new AssertionError("no end");
    }

    private static long pop(Live live) {
        return live.operands.remove(live.operands.size() - 1);
    }

    private static List<Long> pop(Live live, int n) {
        List<Long> taken = new ArrayList<>();
        for (int i = 0; i < n; i++) taken.add(0, pop(live));
        return taken;
    }

    private void branch(Live live, int number) {
        int at = live.labels.size() - 1 - number;
        int[] label = live.labels.get(at);
        int[] began = label[0] < 0 ? null : live.fun.code.get(label[0]);
        boolean loop = began != null && began[0] == 3;
        int wants = began == null ? live.fun.results : loop ? began[1] : began[2];
        List<Long> left = pop(live, wants);
        while (live.operands.size() > label[1]) pop(live);
        live.operands.addAll(left);
        while (live.labels.size() > at + 1) live.labels.remove(live.labels.size() - 1);
        live.pc = loop ? label[0] + 1 : endFrom(live.fun, label[0] + 1);
    }

    private void step(Live live) {
        int[] x = live.fun.code.get(live.pc);
        List<Long> o = live.operands;
        switch (x[0]) {
            case 0: throw new Stop(3, 1);
            case 4: {
                boolean yes = (pop(live) & LOW) != 0;
                begin(live, x[1]);
                if (yes) return;
                live.pc = find(live.fun, live.pc, true);
                if (live.fun.code.get(live.pc)[0] == 5) live.pc++;
                return;
            }
            case 12: branch(live, x[1]); return;
            case 13:
                if ((pop(live) & LOW) != 0) branch(live, x[1]);
                else live.pc++;
                return;
            case 14: {
                long k = Math.min(pop(live) & LOW, x[1]);
                branch(live, live.fun.code.get(live.pc + 1 + (int) k)[1]);
                return;
            }
            case 15: branch(live, live.labels.size() - 1); return;
            case 16: {
                live.pc++;
                Fun f = functions.get(x[1]);
                open(f, pop(live, f.parameters));
                return;
            }
            case 17: {
                live.pc++;
                long k = pop(live) & LOW;
                if (k >= 30) throw new Stop(3, 6);
                Fun f = table.get((int) k);
                if (f == null) throw new Stop(3, 7);
                if (f.parameters != x[1] || f.results != x[2]) throw new Stop(3, 8);
                open(f, pop(live, f.parameters));
                return;
            }
            default:
                live.pc++;
                plain(live, o, x);
        }
    }

    private void plain(Live live, List<Long> o, int[] x) {
        switch (x[0]) {
            case 1: return;
            case 26: pop(live); return;
            case 27: {
                List<Long> t = pop(live, 3);
                o.add((t.get(2) & LOW) != 0 ? t.get(0) : t.get(1));
                return;
            }
            case 32: o.add(live.locals[x[1]]); return;
            case 33: live.locals[x[1]] = pop(live); return;
            case 34: live.locals[x[1]] = o.get(o.size() - 1); return;
            case 35: o.add(globals[x[1]]); return;
            case 36: globals[x[1]] = pop(live); return;
            case 63: o.add((long) memory.size() / 64); return;
            case 64: {
                long n = pop(live) & LOW;
                long had = memory.size() / 64;
                boolean fine = had + n <= 6;
                o.add(fine ? had : LOW);
                for (long i = 0; fine && i < n * 64; i++) memory.add(0);
                return;
            }
            case 65: o.add(x[1] & LOW); return;
            case 66: o.add(x[1] & LOW | (long) x[2] << 32); return;
            default:
                if (x[0] < 63) access(live, x);
                else compute(live, x[0]);
        }
    }

    private void access(Live live, int[] x) {
        String sizes = "48481122112244" + "484812124";
        int size = sizes.charAt(x[0] - 40) - '0';
        long value = x[0] >= 54 ? pop(live) : 0;
        long at = (pop(live) & LOW) + (x[1] & LOW);
        if (at + size > memory.size()) throw new Stop(3, 4);
        if (x[0] >= 54) {
            for (int i = 0; i < size; i++) memory.set((int) at + i, (int) (value >> 8 * i & 255));
            return;
        }
        for (int i = 0; i < size; i++) value |= (long) memory.get((int) at + i) << 8 * i;
        boolean signed = x[0] == 44 || x[0] == 46 || x[0] == 48 || x[0] == 50 || x[0] == 52;
        if (signed && (value >> 8 * size - 1 & 1) == 1) value -= 1L << 8 * size;
        if (x[0] == 44 || x[0] == 46) value &= LOW;
        live.operands.add(value);
    }

    private void compute(Live live, int operation) {
        long y = pop(live);
        if (operation == 69 || operation == 80 || operation == 167 || operation == 173) {
            long low = y & LOW;
            live.operands.add(operation == 69 ? (low == 0 ? 1L : 0L) : operation == 80 ? (y == 0 ? 1L : 0L) : low);
            return;
        }
        long x = pop(live);
        if (operation == 110 && (y & LOW) == 0) throw new Stop(3, 11);
        live.operands.add(two(operation, x, y));
    }

    private static long two(int operation, long x, long y) {
        long ux = x & LOW;
        long uy = y & LOW;
        switch (operation) {
            case 70: return ux == uy ? 1 : 0;
            case 71: return ux == uy ? 0 : 1;
            case 72: return (int) x < (int) y ? 1 : 0;
            case 73: return ux < uy ? 1 : 0;
            case 81: return x == y ? 1 : 0;
            case 83: return x < y ? 1 : 0;
            case 106: return ux + uy & LOW;
            case 107: return ux - uy & LOW;
            case 108: return ux * uy & LOW;
            case 110: return ux / uy;
            case 113: return ux & uy;
            case 116: return ux << (uy % 32) & LOW;
            case 124: return x + y;
            case 125: return x - y;
            case 126: return x * y;
            default: throw new AssertionError("operation " + operation);
        }
    }

    int state(int what) {
        int values = 0;
        for (Live l : frames) values += l.locals.length + l.operands.size();
        switch (what) {
            case 0: return state;
            case 1: return trap;
            case 2: return state == 1 ? frames.size() : 0;
            case 3: return state == 1 ? values : 0;
            case 4: return steps;
            case 5: return functions.size();
            case 6: return instructions();
            case 7: return written == null ? 0 : labels.size();
            case 8: return written == null ? 0 : inner().own;
            case 9: return written != null && inner().dead ? 1 : 0;
            case 10: return memory.size() / 64;
            default: return -1;
        }
    }

    long result(int k) {
        return state != 2 || k < 0 || k >= results.size() ? 0 : results.get(k);
    }

    long global(int k) {
        return k < 0 || k > 7 ? 0 : globals[k];
    }

    int memory(int address) {
        return address < 0 || address >= memory.size() ? -1 : memory.get(address);
    }

    int look(int function, int what) {
        Fun f = whole(function);
        if (f == null || what < 0 || what > 3) return -1;
        return new int[] {f.parameters, f.results, f.locals, f.most}[what];
    }
}
