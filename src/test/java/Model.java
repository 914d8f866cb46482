import java.util.ArrayList;
import java.util.List;

/**
 * The document read a second time, in the plainest way: trees, recursion, and a
 * Java exception for each way in which a run leaves what it is doing.
 */
final class Model {
    private record Token(int kind, int v) { }

    private static final class Node {
        int kind;
        int v;
        int index;
        final List<Node> operands = new ArrayList<>();
    }

    private static final class Home {
        final Value[] locals = {Value.of(0), Value.of(0), Value.of(0), Value.of(0)};
        boolean active = true;
    }

    private record Value(Node block, int number, Home home) {
        static Value of(int number) {
            return new Value(null, number, null);
        }

        int kind() {
            return block == null ? 0 : 1;
        }

        int shown() {
            return block == null ? number : block.index;
        }
    }

    private static final class Stop extends RuntimeException {
        private static final long serialVersionUID = 1L;
        final int outcome;

        Stop(int outcome) {
            super(null, null, false, false);
            this.outcome = outcome;
        }
    }

    private static final class Return extends RuntimeException {
        private static final long serialVersionUID = 1L;
        final transient Home home;
        final transient Value value;

        Return(Home home, Value value) {
            super(null, null, false, false);
            this.home = home;
            this.value = value;
        }
    }

    private static final class Unfinished extends RuntimeException {
        private static final long serialVersionUID = 1L;
    }

    private final List<Token> tokens = new ArrayList<>();
    private List<Node> methods = new ArrayList<>();
    private int outcome;
    private Value result;
    private List<Value> prints;
    private Value[] globals;
    private int fuel;
    private int active;
    private int deepest;
    private int next;

    Model() {
        clear();
    }

    void clear() {
        tokens.clear();
        methods = new ArrayList<>();
        reset();
    }

    private void reset() {
        outcome = 0;
        result = Value.of(0);
        prints = new ArrayList<>();
        globals = new Value[8];
        for (int i = 0; i < 8; i++) {
            globals[i] = Value.of(0);
        }
        fuel = 0;
        active = 0;
        deepest = 0;
    }

    boolean addToken(int kind, int v) {
        boolean local = kind == 1 || kind == 2;
        boolean global = kind == 3 || kind == 4;
        if (tokens.size() == 128 || kind < 0 || kind > 16 || local && (v < 0 || v > 3)
                || (global || kind == 15) && (v < 0 || v > 7)) {
            return false;
        }
        tokens.add(new Token(kind, v));
        methods = new ArrayList<>();
        return true;
    }

    int compile() {
        methods = new ArrayList<>();
        if (tokens.isEmpty()) {
            return 1;
        }
        List<Node> roots = new ArrayList<>();
        next = 0;
        try {
            while (next < tokens.size()) {
                roots.add(parse());
            }
        } catch (Unfinished e) {
            return 2;
        }
        if (roots.size() > 8) {
            return 3;
        }
        int worst = 0;
        for (int test = 4; test <= 6 && worst == 0; test++) {
            for (Node root : roots) {
                worst = fails(test, root, 1, false, roots.size()) ? test : worst;
            }
        }
        if (worst == 0) {
            methods = roots;
        }
        return worst;
    }

    private Node parse() {
        if (next == tokens.size()) {
            throw new Unfinished();
        }
        Node node = new Node();
        node.kind = tokens.get(next).kind();
        node.v = tokens.get(next).v();
        node.index = next;
        next++;
        int arity = "00101022223211211".charAt(node.kind) - '0';
        for (int i = 0; i < arity; i++) {
            node.operands.add(parse());
        }
        return node;
    }

    private static boolean fails(int test, Node node, int depth, boolean inBlock, int count) {
        if (test == 4 && depth > 8 || test == 5 && node.kind == 5 && !inBlock
                || test == 6 && node.kind == 15 && node.v >= count) {
            return true;
        }
        for (Node operand : node.operands) {
            if (fails(test, operand, depth + 1, inBlock || node.kind == 13, count)) {
                return true;
            }
        }
        return false;
    }

    int run(int arg, int givenFuel) {
        if (methods.isEmpty()) {
            return -1;
        }
        reset();
        fuel = Math.max(0, Math.min(255, givenFuel));
        try {
            result = activateMethod(0, Value.of(arg));
            outcome = 1;
        } catch (Stop stop) {
            outcome = stop.outcome;
        }
        return outcome;
    }

    private void enter() {
        active++;
        deepest = Math.max(deepest, active);
    }

    private Value activateMethod(int method, Value argument) {
        Home home = new Home();
        home.locals[0] = argument;
        int before = active;
        enter();
        try {
            return eval(methods.get(method), home, null);
        } catch (Return back) {
            if (back.home != home) {
                throw back;
            }
            return back.value;
        } finally {
            home.active = false;
            active = before;
        }
    }

    private Value activateBlock(Value block, Value param) {
        enter();
        Value answer = eval(block.block.operands.get(0), block.home, param);
        active--;
        return answer;
    }

    private void spend() {
        if (fuel == 0) {
            throw new Stop(3);
        }
        fuel--;
        if (active == 16) {
            throw new Stop(5);
        }
    }

    private Value eval(Node node, Home home, Value param) {
        switch (node.kind) {
            case 0: return Value.of(node.v);
            case 1: return home.locals[node.v];
            case 3: return globals[node.v];
            case 5: return param;
            case 13: return new Value(node, 0, home);
            default: break;
        }
        Value first = eval(node.operands.get(0), home, param);
        switch (node.kind) {
            case 2: home.locals[node.v] = first; return first;
            case 4: globals[node.v] = first; return first;
            case 10:
                if (first.kind() == 1) {
                    throw new Stop(4);
                }
                return eval(node.operands.get(first.number != 0 ? 1 : 2), home, param);
            case 12:
                if (prints.size() < 32) {
                    prints.add(first);
                }
                return first;
            case 15:
                spend();
                return activateMethod(node.v, first);
            case 16:
                if (!home.active) {
                    throw new Stop(2);
                }
                throw new Return(home, first);
            default: break;
        }
        Value second = eval(node.operands.get(1), home, param);
        if (node.kind == 11) {
            return second;
        }
        if (node.kind == 14) {
            if (first.kind() == 0) {
                throw new Stop(4);
            }
            spend();
            return activateBlock(first, second);
        }
        if (first.kind() == 1 || second.kind() == 1) {
            throw new Stop(4);
        }
        return Value.of(calculate(node.kind, first.number, second.number));
    }

    private static int calculate(int kind, int a, int b) {
        switch (kind) {
            case 6: return a + b;
            case 7: return a - b;
            case 8: return a * b;
            default: return a < b ? 1 : 0;
        }
    }

    /** In the form of Check.runAnswers. */
    String runAnswers() {
        StringBuilder all = new StringBuilder();
        all.append("outcome ").append(outcome);
        all.append(" result ").append(result.kind()).append(',').append(result.shown());
        all.append(" prints ").append(prints.size());
        for (int i = -1; i <= 32; i++) {
            boolean there = i >= 0 && i < prints.size();
            all.append(' ').append(there ? prints.get(i).kind() : -1).append(',').append(there ? prints.get(i).shown() : 0);
        }
        all.append(" globals");
        for (int i = -1; i <= 8; i++) {
            boolean there = i >= 0 && i < 8;
            all.append(' ').append(there ? globals[i].kind() : -1).append(',').append(there ? globals[i].shown() : 0);
        }
        all.append(" depth ").append(deepest);
        return all.toString();
    }

    /** In the form of Check.allAnswers. */
    String allAnswers() {
        return "tokens " + tokens.size() + " methods " + methods.size() + " " + runAnswers() + " fuel " + fuel;
    }
}
