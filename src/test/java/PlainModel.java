import java.util.ArrayList;
import java.util.List;
import java.util.Map;
import java.util.TreeMap;

/** The document once more, by trees, texts and copies of everything: slow, plain, and built otherwise than the class. */
final class PlainModel {
    static final class Node {
        final char letter;
        final String path;
        int number = -1;
        List<Node> inner = null;
        private String shape = null;

        Node(char letter, String path) {
            this.letter = letter;
            this.path = path;
        }

        Node copy() {
            Node copy = new Node(letter, path);
            copy.number = number;
            copy.shape = shape;
            if (inner != null) {
                copy.inner = new ArrayList<>();
                for (Node node : inner) {
                    copy.inner.add(node.copy());
                }
            }
            return copy;
        }

        /** Its fields with all that is in them, in the order of the text. */
        List<Node> fields() {
            List<Node> all = new ArrayList<>();
            if (inner != null) {
                for (Node node : inner) {
                    all.add(node);
                    all.addAll(node.fields());
                }
            }
            return all;
        }

        List<Node> leaves() {
            List<Node> leaves = fields();
            leaves.removeIf(node -> node.inner != null);
            return leaves;
        }

        int branches() {
            return fields().size() - leaves().size();
        }

        String text(boolean withNumbers) {
            if (inner == null) {
                return withNumbers ? "" + number : "";
            }
            List<String> parts = new ArrayList<>();
            for (Node node : inner) {
                parts.add(node.letter + ":" + node.text(withNumbers));
            }
            return "{" + String.join(",", parts) + "}";
        }

        /** Its text without numbers, kept because it is asked for so often. */
        String shape() {
            if (shape == null) {
                shape = text(false);
            }
            return shape;
        }

        boolean remove(String path) {
            shape = null;
            for (Node node : fields()) {
                if (node.inner != null && node.inner.removeIf(in -> in.path.equals(path))) {
                    return true;
                }
            }
            return inner.removeIf(in -> in.path.equals(path));
        }
    }

    static final class State {
        final Map<Integer, Node> records = new TreeMap<>();
        int read = 0;
        final List<String> paths = new ArrayList<>();
        final List<Node> shapes = new ArrayList<>();
        int bound = 2;

        State copy() {
            State copy = new State();
            records.forEach((number, node) -> copy.records.put(number, node.copy()));
            copy.read = read;
            copy.paths.addAll(paths);
            copy.shapes.addAll(shapes);
            copy.bound = bound;
            return copy;
        }

        int shapeOf(Node node) {
            for (int i = 0; i < shapes.size(); i++) {
                if (shapes.get(i).shape().equals(node.shape())) {
                    return i;
                }
            }
            return -1;
        }
    }

    static final class Failure extends Exception {
        private static final long serialVersionUID = 1L;
        final int place;

        Failure(int place) {
            this.place = place;
        }
    }

    String text = "";
    State now = new State();
    final List<State> history = new ArrayList<>();
    private int at;
    private int numbers;

    private void record() {
        history.add(now.copy());
        if (history.size() > 5) {
            history.remove(0);
        }
    }

    // ---- reading

    private char next() {
        while (at < text.length() && text.charAt(at) == ' ') {
            at++;
        }
        return at < text.length() ? text.charAt(at) : 0;
    }

    private char nextAllowed(String signs) throws Failure {
        char sign = next();
        if (sign == 0 || signs.indexOf(sign) < 0) {
            throw new Failure(at);
        }
        at++;
        return sign;
    }

    private List<Node> parseRecord(String outer, int level) throws Failure {
        if (level > 4) {
            throw new Failure(at);
        }
        nextAllowed("{");
        List<Node> inner = new ArrayList<>();
        String letters = "abcdefghijklmnopqrstuvwxyz";
        if (next() == '}') {
            at++;
            return inner;
        }
        do {
            char letter = nextAllowed(letters);
            letters = letters.replace("" + letter, "");
            Node node = new Node(letter, outer + letter);
            inner.add(node);
            nextAllowed(":");
            if (next() == '{') {
                node.inner = parseRecord(node.path, level + 1);
            } else {
                node.number = parseNumber();
            }
        } while (nextAllowed(",}") == ',');
        return inner;
    }

    private int parseNumber() throws Failure {
        int number = nextAllowed(numbers == 10 ? "" : "0123456789") - '0';
        numbers++;
        for (int digits = 1; at < text.length() && Character.isDigit(text.charAt(at)); digits++) {
            if (digits == 3 || number == 0) {
                throw new Failure(at);
            }
            number = number * 10 + text.charAt(at) - '0';
            at++;
        }
        return number;
    }

    private Node parse() throws Failure {
        at = 0;
        numbers = 0;
        Node node = new Node(' ', "");
        node.inner = parseRecord("", 1);
        next();
        if (at < text.length()) {
            throw new Failure(at);
        }
        return node;
    }

    // ---- texts and records

    int append(int character) {
        if (character < 1 || character > 255) {
            return -1;
        }
        if (text.length() == 80) {
            return -3;
        }
        text = text + (char) character;
        return text.length();
    }

    int clearText() {
        int length = text.length();
        text = "";
        return length;
    }

    int read() {
        Node node;
        try {
            node = parse();
        } catch (Failure failure) {
            return -1000 - failure.place;
        }
        List<String> paths = new ArrayList<>(now.paths);
        for (Node field : node.fields()) {
            if (!paths.contains(field.path)) {
                paths.add(field.path);
            }
        }
        boolean isNewShape = now.shapeOf(node) < 0;
        if (now.read == 30 || paths.size() > 60 || isNewShape && now.shapes.size() == 40) {
            return -3;
        }
        record();
        now.paths.clear();
        now.paths.addAll(paths);
        if (isNewShape) {
            now.shapes.add(node.copy());
        }
        now.records.put(now.read, node);
        text = "";
        return now.read++;
    }

    int discard(int record) {
        if (!now.records.containsKey(record)) {
            return -1;
        }
        record();
        now.records.remove(record);
        return now.records.size();
    }

    int change(int record, int path, int value) {
        if (!now.records.containsKey(record) || path < 0 || path >= now.paths.size() || value < 0 || value > 999) {
            return -1;
        }
        for (Node leaf : now.records.get(record).leaves()) {
            if (leaf.path.equals(now.paths.get(path))) {
                record();
                int previous = leaf.number;
                leaf.number = value;
                return previous;
            }
        }
        return -2;
    }

    int drop(int record, int path) {
        if (!now.records.containsKey(record) || path < 0 || path >= now.paths.size()) {
            return -1;
        }
        Node rest = now.records.get(record).copy();
        if (!rest.remove(now.paths.get(path))) {
            return -2;
        }
        boolean isNewShape = now.shapeOf(rest) < 0;
        if (isNewShape && now.shapes.size() == 40) {
            return -3;
        }
        record();
        now.records.put(record, rest);
        if (isNewShape) {
            now.shapes.add(rest.copy());
        }
        return now.shapeOf(rest);
    }

    int setBound(int bound) {
        if (bound < 1 || bound > 10) {
            return -1;
        }
        record();
        now.bound = bound;
        return count(4);
    }

    int undo() {
        if (history.isEmpty()) {
            return -2;
        }
        now = history.remove(history.size() - 1);
        return history.size();
    }

    // ---- looking

    private List<Integer> having(int shape) {
        List<Integer> having = new ArrayList<>();
        now.records.forEach((number, node) -> {
            if (shape >= 0 && now.shapes.get(shape).shape().equals(node.shape())) {
                having.add(number);
            }
        });
        return having;
    }

    private boolean isRare(Node node, int bound) {
        return having(now.shapeOf(node)).size() < bound;
    }

    int count(int what) {
        int common = 0;
        for (int shape = 0; shape < now.shapes.size(); shape++) {
            common += having(shape).size() >= now.bound ? 1 : 0;
        }
        int rare = 0;
        for (Node node : now.records.values()) {
            rare += isRare(node, now.bound) ? 1 : 0;
        }
        int[] answers = {now.records.size(), now.read, now.paths.size(), now.shapes.size(), common, rare,
            sizeWith(now.bound), now.bound, history.size(), text.length()};
        return what < 0 || what >= answers.length ? -1 : answers[what];
    }

    int record(int record, int what) {
        if (!now.records.containsKey(record) || what < 0 || what > 4) {
            return -1;
        }
        Node node = now.records.get(record);
        int sum = 0;
        for (Node leaf : node.leaves()) {
            sum += leaf.number;
        }
        int[] answers = {now.shapeOf(node), node.leaves().size(), node.branches(), node.text(true).length(), sum};
        return answers[what];
    }

    int character(int record, int index) {
        if (!now.records.containsKey(record) || index < 0) {
            return -1;
        }
        String text = now.records.get(record).text(true);
        return index < text.length() ? text.charAt(index) : -9;
    }

    int value(int record, int path) {
        if (!now.records.containsKey(record) || path < 0 || path >= now.paths.size()) {
            return -1;
        }
        for (Node leaf : now.records.get(record).leaves()) {
            if (leaf.path.equals(now.paths.get(path))) {
                return leaf.number;
            }
        }
        return -9;
    }

    int path(int path, int what) {
        if (path < 0 || path >= now.paths.size() || what < 0 || what > 5) {
            return -1;
        }
        String name = now.paths.get(path);
        String outer = name.substring(0, name.length() - 1);
        int leaves = 0;
        int branches = 0;
        int sum = 0;
        int cost = 0;
        for (Node node : now.records.values()) {
            for (Node field : node.fields()) {
                if (field.path.equals(name)) {
                    leaves += field.inner == null ? 1 : 0;
                    branches += field.inner == null ? 0 : 1;
                    sum += field.inner == null ? field.number : 0;
                    cost += field.inner == null && !isRare(node, now.bound) ? 1 : 0;
                }
            }
            cost += isRare(node, now.bound) ? node.fields().size() : 0;
        }
        int[] answers = {name.charAt(name.length() - 1), outer.isEmpty() ? -9 : now.paths.indexOf(outer),
            leaves, branches, sum, cost};
        return answers[what];
    }

    int shape(int shape, int what) {
        if (shape < 0 || shape >= now.shapes.size() || what < 0 || what > 4) {
            return -1;
        }
        Node node = now.shapes.get(shape);
        int having = having(shape).size();
        int[] answers = {having, having >= now.bound ? 1 : 0, node.leaves().size(), node.branches(),
            node.text(false).length()};
        return answers[what];
    }

    int column(int shape, int leaf, int index) {
        if (shape < 0 || shape >= now.shapes.size() || leaf < 0 || index < 0) {
            return -1;
        }
        List<Integer> having = having(shape);
        if (having.size() < now.bound) {
            return -2;
        }
        if (index >= having.size() || leaf >= now.shapes.get(shape).leaves().size()) {
            return -9;
        }
        return now.records.get(having.get(index)).leaves().get(leaf).number;
    }

    int field(int shape, int index) {
        if (shape < 0 || shape >= now.shapes.size() || index < 0) {
            return -1;
        }
        List<Node> fields = now.shapes.get(shape).fields();
        if (index >= fields.size()) {
            return -9;
        }
        Node field = fields.get(index);
        return now.paths.indexOf(field.path) + (field.inner == null ? 0 : 100);
    }

    // ---- what could be

    int sizeWith(int bound) {
        if (bound < 1 || bound > 10) {
            return -1;
        }
        int size = now.records.size();
        for (int shape = 0; shape < now.shapes.size(); shape++) {
            Node node = now.shapes.get(shape);
            if (having(shape).size() >= bound) {
                size += 1 + node.fields().size() + having(shape).size() * node.leaves().size();
            }
        }
        for (Node node : now.records.values()) {
            size += isRare(node, bound) ? 2 * node.leaves().size() + node.branches() : 0;
        }
        return size;
    }

    int bestBound() {
        int best = 10;
        for (int bound = 9; bound >= 1; bound--) {
            best = sizeWith(bound) <= sizeWith(best) ? bound : best;
        }
        return best;
    }

    int like(int record) {
        if (!now.records.containsKey(record)) {
            return -1;
        }
        int best = -9;
        int most = -1;
        for (int other : now.records.keySet()) {
            int common = 0;
            for (Node leaf : now.records.get(record).leaves()) {
                for (Node otherLeaf : now.records.get(other).leaves()) {
                    common += leaf.path.equals(otherLeaf.path) ? 1 : 0;
                }
            }
            if (other != record && common > most) {
                most = common;
                best = other;
            }
        }
        return best;
    }
}
