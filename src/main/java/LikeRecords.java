/**
 * Records of unlike forms, kept by the shapes that are learned from them; see ../shared/DOC.md.
 *
 * Every array of numbers is held by a Row, which tests each index, and all rows are made in the
 * constructors and used again, so that no call makes an object.
 */
public final class LikeRecords {
    public static final int INVALID_ARGUMENT = -1;
    public static final int ILLEGAL_STATE = -2;
    public static final int CAPACITY_EXCEEDED = -3;
    public static final int NONE = -9;

    private static final int MOST_CHARACTERS = 80;
    private static final int MOST_LEVELS = 4;
    private static final int MOST_NUMBERS = 10;
    private static final int MOST_RECORDS = 30;
    private static final int MOST_PATHS = 60;
    private static final int MOST_SHAPES = 40;
    private static final int MOST_STATES = 5;
    private static final int MOST_BOUND = 10;
    private static final int FIRST_BOUND = 2;
    private static final int MOST_VALUE = 999;
    private static final int MOST_CODE = 255;
    /** What read() answers for a text that fails at its place 0. */
    private static final int FAILED = -1000;
    /** A field takes a letter, a ":" and at least one sign more of the text. */
    private static final int MOST_FIELDS = MOST_CHARACTERS / 3;
    /** A number that was read with one digit can come back with three. */
    private static final int LONGEST_LINE = MOST_CHARACTERS + 2 * MOST_NUMBERS;
    /** What is added to the path of a branch to tell it from a leaf; more than any path. */
    private static final int BRANCH = 100;

    private final Row text;
    private final Row line;
    private final Reading reading;
    private final Paths paths;
    private final Shapes shapes;
    private final Form remainder;
    private final State state;
    private final History history;

    public LikeRecords() {
        text = new Row(MOST_CHARACTERS);
        line = new Row(LONGEST_LINE);
        reading = new Reading();
        paths = reading.paths;
        shapes = new Shapes();
        remainder = new Form();
        state = new State();
        history = new History();
    }

    // ---- texts and records

    public int append(int character) {
        if (character < 1 || character > MOST_CODE) {
            return INVALID_ARGUMENT;
        }
        if (text.size() >= MOST_CHARACTERS) {
            return CAPACITY_EXCEEDED;
        }
        text.add(character);
        return text.size();
    }

    public int clearText() {
        int previous = text.size();
        text.cutTo(0);
        return previous;
    }

    public int read() {
        reading.begin(state.pathsKnown);
        int taken = takeText();
        if (taken < text.size() || !reading.isComplete()) {
            return FAILED - taken;
        }
        int shape = shapes.numberFor(reading.form, state.shapesKnown);
        if (state.recordsRead() >= MOST_RECORDS || paths.size() > MOST_PATHS || shape >= MOST_SHAPES) {
            return CAPACITY_EXCEEDED;
        }
        history.keep(state);
        state.pathsKnown = paths.size();
        learnShape(shape, reading.form);
        text.cutTo(0);
        return state.addRecord(shape, reading.numbers);
    }

    public int discard(int record) {
        if (!state.has(record)) {
            return INVALID_ARGUMENT;
        }
        history.keep(state);
        state.setShapeOf(record, NONE);
        return state.recordsLeft();
    }

    public int change(int record, int path, int value) {
        if (!state.has(record) || !isPath(path) || value < 0 || value > MOST_VALUE) {
            return INVALID_ARGUMENT;
        }
        int leaf = formOf(record).leafPlace(path);
        if (leaf == NONE) {
            return ILLEGAL_STATE;
        }
        history.keep(state);
        int previous = state.valueAt(record, leaf);
        state.setValue(record, leaf, value);
        return previous;
    }

    public int drop(int record, int path) {
        if (!state.has(record) || !isPath(path)) {
            return INVALID_ARGUMENT;
        }
        Form form = formOf(record);
        if (!form.holds(path) && !form.holds(BRANCH + path)) {
            return ILLEGAL_STATE;
        }
        fillRemainder(form, path);
        int shape = shapes.numberFor(remainder, state.shapesKnown);
        if (shape >= MOST_SHAPES) {
            return CAPACITY_EXCEEDED;
        }
        history.keep(state);
        learnShape(shape, remainder);
        dropValues(record, form, path);
        state.setShapeOf(record, shape);
        return shape;
    }

    public int setBound(int bound) {
        if (!isBound(bound)) {
            return INVALID_ARGUMENT;
        }
        history.keep(state);
        state.bound = bound;
        return commonShapes();
    }

    public int undo() {
        if (history.size() == 0) {
            return ILLEGAL_STATE;
        }
        history.restore(state);
        return history.size();
    }

    // ---- looking

    public int count(int what) {
        switch (what) {
            case 0: return state.recordsLeft();
            case 1: return state.recordsRead();
            case 2: return state.pathsKnown;
            case 3: return state.shapesKnown;
            case 4: return commonShapes();
            case 5: return rareRecords();
            case 6: return sizeFor(state.bound);
            case 7: return state.bound;
            case 8: return history.size();
            case 9: return text.size();
            default: return INVALID_ARGUMENT;
        }
    }

    public int record(int record, int what) {
        if (!state.has(record)) {
            return INVALID_ARGUMENT;
        }
        Form form = formOf(record);
        switch (what) {
            case 0: return state.shapeOf(record);
            case 1: return form.leaves();
            case 2: return form.branches();
            case 3: return writeText(form, record);
            case 4: return sumOfRecord(record, form.leaves());
            default: return INVALID_ARGUMENT;
        }
    }

    public int character(int record, int index) {
        if (!state.has(record) || index < 0) {
            return INVALID_ARGUMENT;
        }
        int length = writeText(formOf(record), record);
        return index < length ? line.at(index) : NONE;
    }

    public int value(int record, int path) {
        if (!state.has(record) || !isPath(path)) {
            return INVALID_ARGUMENT;
        }
        int leaf = formOf(record).leafPlace(path);
        return leaf == NONE ? NONE : state.valueAt(record, leaf);
    }

    public int path(int path, int what) {
        if (!isPath(path)) {
            return INVALID_ARGUMENT;
        }
        switch (what) {
            case 0: return paths.letterOf(path);
            case 1: return paths.outerOf(path);
            case 2: return recordsHolding(path);
            case 3: return recordsHolding(BRANCH + path);
            case 4: return sumOfPath(path);
            case 5: return costOf(path);
            default: return INVALID_ARGUMENT;
        }
    }

    public int shape(int shape, int what) {
        if (!isShape(shape)) {
            return INVALID_ARGUMENT;
        }
        Form form = shapes.formAt(shape);
        switch (what) {
            case 0: return state.recordsWith(shape);
            case 1: return isCommon(shape) ? 1 : 0;
            case 2: return form.leaves();
            case 3: return form.branches();
            case 4: return writeText(form, NONE);
            default: return INVALID_ARGUMENT;
        }
    }

    public int column(int shape, int leaf, int index) {
        if (!isShape(shape) || leaf < 0 || index < 0) {
            return INVALID_ARGUMENT;
        }
        if (!isCommon(shape)) {
            return ILLEGAL_STATE;
        }
        int record = state.recordWith(shape, index);
        if (record == NONE || leaf >= shapes.formAt(shape).leaves()) {
            return NONE;
        }
        return state.valueAt(record, leaf);
    }

    public int field(int shape, int index) {
        if (!isShape(shape) || index < 0) {
            return INVALID_ARGUMENT;
        }
        Form form = shapes.formAt(shape);
        return index < form.size() ? form.at(index) : NONE;
    }

    // ---- what could be, which changes nothing

    public int sizeWith(int bound) {
        return isBound(bound) ? sizeFor(bound) : INVALID_ARGUMENT;
    }

    public int bestBound() {
        int best = 1;
        int smallest = sizeFor(best);
        for (int bound = 2; bound <= MOST_BOUND; bound++) {
            int size = sizeFor(bound);
            if (size < smallest) {
                smallest = size;
                best = bound;
            }
        }
        return best;
    }

    public int like(int record) {
        if (!state.has(record)) {
            return INVALID_ARGUMENT;
        }
        Form form = formOf(record);
        int best = NONE;
        int most = -1;
        for (int other = 0; other < state.recordsRead(); other++) {
            if (other != record && state.has(other)) {
                int common = form.leavesInCommon(formOf(other));
                if (common > most) {
                    most = common;
                    best = other;
                }
            }
        }
        return best;
    }

    // ---- what is there

    private boolean isPath(int path) {
        return path >= 0 && path < state.pathsKnown;
    }

    private boolean isShape(int shape) {
        return shape >= 0 && shape < state.shapesKnown;
    }

    private boolean isBound(int bound) {
        return bound >= 1 && bound <= MOST_BOUND;
    }

    private boolean isCommon(int shape) {
        return state.recordsWith(shape) >= state.bound;
    }

    private Form formOf(int record) {
        return shapes.formAt(state.shapeOf(record));
    }

    // ---- reading and dropping

    /** Answers how many characters the reading took; a next one, if there is one, is not allowed. */
    private int takeText() {
        for (int i = 0; i < text.size(); i++) {
            if (!reading.take(text.at(i))) {
                return i;
            }
        }
        return text.size();
    }

    private void learnShape(int shape, Form form) {
        if (shape == state.shapesKnown) {
            shapes.keep(shape, form);
            state.shapesKnown++;
        }
    }

    private void fillRemainder(Form form, int dropped) {
        remainder.clear();
        for (int i = 0; i < form.size(); i++) {
            if (!paths.isWithin(form.pathAt(i), dropped)) {
                remainder.add(form.at(i));
            }
        }
    }

    private void dropValues(int record, Form form, int dropped) {
        int leaf = 0;
        int kept = 0;
        for (int i = 0; i < form.size(); i++) {
            if (!form.isBranchAt(i)) {
                if (!paths.isWithin(form.pathAt(i), dropped)) {
                    state.setValue(record, kept, state.valueAt(record, leaf));
                    kept++;
                }
                leaf++;
            }
        }
    }

    // ---- sums over records and shapes

    private int commonShapes() {
        int common = 0;
        for (int shape = 0; shape < state.shapesKnown; shape++) {
            if (isCommon(shape)) {
                common++;
            }
        }
        return common;
    }

    private int rareRecords() {
        int rare = 0;
        for (int shape = 0; shape < state.shapesKnown; shape++) {
            if (!isCommon(shape)) {
                rare += state.recordsWith(shape);
            }
        }
        return rare;
    }

    private int sizeFor(int bound) {
        int size = state.recordsLeft();
        for (int shape = 0; shape < state.shapesKnown; shape++) {
            Form form = shapes.formAt(shape);
            int records = state.recordsWith(shape);
            if (records >= bound) {
                size += 1 + form.size() + records * form.leaves();
            } else {
                size += records * (2 * form.leaves() + form.branches());
            }
        }
        return size;
    }

    private int costOf(int path) {
        int cost = 0;
        for (int shape = 0; shape < state.shapesKnown; shape++) {
            Form form = shapes.formAt(shape);
            if (!isCommon(shape)) {
                cost += state.recordsWith(shape) * form.size();
            } else if (form.holds(path)) {
                cost += state.recordsWith(shape);
            }
        }
        return cost;
    }

    private int recordsHolding(int field) {
        int records = 0;
        for (int shape = 0; shape < state.shapesKnown; shape++) {
            if (shapes.formAt(shape).holds(field)) {
                records += state.recordsWith(shape);
            }
        }
        return records;
    }

    private int sumOfPath(int path) {
        int sum = 0;
        for (int record = 0; record < state.recordsRead(); record++) {
            int leaf = formOf(record).leafPlace(path);
            if (leaf != NONE) {
                sum += state.valueAt(record, leaf);
            }
        }
        return sum;
    }

    private int sumOfRecord(int record, int leaves) {
        int sum = 0;
        for (int leaf = 0; leaf < leaves; leaf++) {
            sum += state.valueAt(record, leaf);
        }
        return sum;
    }

    // ---- texts that come back

    /** Writes the text of a record, or of the shape alone if the record is NONE; answers its length. */
    private int writeText(Form form, int record) {
        line.cutTo(0);
        line.add('{');
        int open = NONE;
        int leaf = 0;
        for (int i = 0; i < form.size(); i++) {
            int path = form.pathAt(i);
            open = writeClosings(open, paths.outerOf(path));
            writeName(path);
            if (form.isBranchAt(i)) {
                line.add('{');
                open = path;
            } else {
                if (record != NONE) {
                    writeNumber(state.valueAt(record, leaf));
                }
                leaf++;
            }
        }
        writeClosings(open, NONE);
        line.add('}');
        return line.size();
    }

    /** Closes inner records, from the open one outwards, until the outer one is open, which it answers. */
    private int writeClosings(int open, int outer) {
        int path = open;
        for (int level = 1; level < MOST_LEVELS && path != outer; level++) {
            line.add('}');
            path = paths.outerOf(path);
        }
        return path;
    }

    private void writeName(int path) {
        if (line.at(line.size() - 1) != '{') {
            line.add(',');
        }
        line.add(paths.letterOf(path));
        line.add(':');
    }

    private void writeNumber(int number) {
        if (number >= 100) {
            line.add('0' + number / 100);
        }
        if (number >= 10) {
            line.add('0' + number / 10 % 10);
        }
        line.add('0' + number % 10);
    }

    /** A list of numbers with room for so many and no more; outside of it stands NONE. */
    private static final class Row {
        private final int[] cells;
        private int size;

        Row(int room) {
            cells = new int[Math.max(0, room)];
            size = 0;
        }

        int size() {
            return size;
        }

        int at(int index) {
            return index >= 0 && index < size && index < cells.length ? cells[index] : NONE;
        }

        void put(int index, int number) {
            if (index >= 0 && index < size && index < cells.length) {
                cells[index] = number;
            }
        }

        void add(int number) {
            if (size >= 0 && size < cells.length) {
                cells[size] = number;
                size++;
            }
        }

        void cutTo(int shorter) {
            if (shorter >= 0 && shorter < size) {
                size = shorter;
            }
        }

        void copyFrom(Row other) {
            size = 0;
            for (int i = 0; i < other.size(); i++) {
                add(other.at(i));
            }
        }
    }

    /** The letters of the paths, each with the path of the inner record in which it stands. */
    private static final class Paths {
        private final Row letters;
        private final Row outers;

        /** A record that is read may bring more paths than may be known; they are counted before it is refused. */
        Paths() {
            letters = new Row(MOST_PATHS + MOST_FIELDS);
            outers = new Row(MOST_PATHS + MOST_FIELDS);
        }

        int size() {
            return letters.size();
        }

        void cutTo(int known) {
            letters.cutTo(known);
            outers.cutTo(known);
        }

        int letterOf(int path) {
            return letters.at(path);
        }

        int outerOf(int path) {
            return outers.at(path);
        }

        int findOrAdd(int letter, int outer) {
            for (int path = 0; path < letters.size(); path++) {
                if (letters.at(path) == letter && outers.at(path) == outer) {
                    return path;
                }
            }
            letters.add(letter);
            outers.add(outer);
            return letters.size() - 1;
        }

        /** Whether the path is the other one, or stands within it. */
        boolean isWithin(int path, int other) {
            int outer = path;
            for (int level = 0; level < MOST_LEVELS && outer != NONE; level++) {
                if (outer == other) {
                    return true;
                }
                outer = outers.at(outer);
            }
            return false;
        }
    }

    /**
     * The fields of a record in the order of its text: a leaf by its path, a branch by BRANCH plus its
     * path. As each path tells the record in which it stands, equal forms are equal texts of shapes.
     */
    private static final class Form {
        private final Row fields;
        private int leaves;

        Form() {
            fields = new Row(MOST_FIELDS);
            leaves = 0;
        }

        void clear() {
            fields.cutTo(0);
            leaves = 0;
        }

        void add(int field) {
            fields.add(field);
            if (field < BRANCH) {
                leaves++;
            }
        }

        void copyFrom(Form other) {
            fields.copyFrom(other.fields);
            leaves = other.leaves;
        }

        int size() {
            return fields.size();
        }

        int leaves() {
            return leaves;
        }

        int branches() {
            return fields.size() - leaves;
        }

        int at(int index) {
            return fields.at(index);
        }

        boolean isBranchAt(int index) {
            return fields.at(index) >= BRANCH;
        }

        int pathAt(int index) {
            int field = fields.at(index);
            return field >= BRANCH ? field - BRANCH : field;
        }

        boolean holds(int field) {
            for (int i = 0; i < fields.size(); i++) {
                if (fields.at(i) == field) {
                    return true;
                }
            }
            return false;
        }

        /** The place of a path among the leaves, NONE if it is no leaf. */
        int leafPlace(int path) {
            int leaf = 0;
            for (int i = 0; i < fields.size(); i++) {
                if (fields.at(i) == path) {
                    return leaf;
                }
                if (!isBranchAt(i)) {
                    leaf++;
                }
            }
            return NONE;
        }

        boolean isSameAs(Form other) {
            if (fields.size() != other.size()) {
                return false;
            }
            for (int i = 0; i < fields.size(); i++) {
                if (fields.at(i) != other.at(i)) {
                    return false;
                }
            }
            return true;
        }

        int leavesInCommon(Form other) {
            int common = 0;
            for (int i = 0; i < fields.size(); i++) {
                if (!isBranchAt(i) && other.holds(fields.at(i))) {
                    common++;
                }
            }
            return common;
        }
    }

    /** The forms of the shapes by their numbers; how many of them are known, the state tells. */
    private static final class Shapes {
        private final Form[] forms;
        private final Form empty;

        Shapes() {
            forms = new Form[MOST_SHAPES];
            for (int i = 0; i < forms.length; i++) {
                forms[i] = new Form();
            }
            empty = new Form();
        }

        /** The form of a shape; one without fields if there is none. */
        Form formAt(int shape) {
            if (shape < 0 || shape >= forms.length) {
                return empty;
            }
            Form form = forms[shape];
            return form == null ? empty : form;
        }

        /** The number of the shape with this form, or the one that it would get as a new one. */
        int numberFor(Form form, int known) {
            for (int shape = 0; shape < known; shape++) {
                if (formAt(shape).isSameAs(form)) {
                    return shape;
                }
            }
            return known;
        }

        void keep(int shape, Form form) {
            if (shape >= 0 && shape < forms.length) {
                formAt(shape).copyFrom(form);
            }
        }
    }

    /**
     * What undo() restores. Paths and shapes are only ever added behind the known ones, so that their
     * counts are enough to restore them.
     */
    private static final class State {
        private final Row shapesOfRecords;
        private final Row values;
        int pathsKnown;
        int shapesKnown;
        int bound;

        State() {
            shapesOfRecords = new Row(MOST_RECORDS);
            values = new Row(MOST_RECORDS * MOST_NUMBERS);
            pathsKnown = 0;
            shapesKnown = 0;
            bound = FIRST_BOUND;
        }

        void copyFrom(State other) {
            shapesOfRecords.copyFrom(other.shapesOfRecords);
            values.copyFrom(other.values);
            pathsKnown = other.pathsKnown;
            shapesKnown = other.shapesKnown;
            bound = other.bound;
        }

        int addRecord(int shape, Row numbers) {
            shapesOfRecords.add(shape);
            for (int leaf = 0; leaf < MOST_NUMBERS; leaf++) {
                values.add(numbers.at(leaf));
            }
            return shapesOfRecords.size() - 1;
        }

        /** The shape of a record, NONE if there is no such record or it was thrown away. */
        int shapeOf(int record) {
            return shapesOfRecords.at(record);
        }

        void setShapeOf(int record, int shape) {
            shapesOfRecords.put(record, shape);
        }

        boolean has(int record) {
            return shapesOfRecords.at(record) != NONE;
        }

        int recordsRead() {
            return shapesOfRecords.size();
        }

        int recordsLeft() {
            int left = 0;
            for (int record = 0; record < shapesOfRecords.size(); record++) {
                if (has(record)) {
                    left++;
                }
            }
            return left;
        }

        int recordsWith(int shape) {
            int records = 0;
            for (int record = 0; record < shapesOfRecords.size(); record++) {
                if (shapesOfRecords.at(record) == shape) {
                    records++;
                }
            }
            return records;
        }

        /** The record of a shape that has so many of them before it, NONE if there is none. */
        int recordWith(int shape, int before) {
            int passed = 0;
            for (int record = 0; record < shapesOfRecords.size(); record++) {
                if (shapesOfRecords.at(record) == shape) {
                    if (passed == before) {
                        return record;
                    }
                    passed++;
                }
            }
            return NONE;
        }

        int valueAt(int record, int leaf) {
            return values.at(record * MOST_NUMBERS + leaf);
        }

        void setValue(int record, int leaf, int number) {
            values.put(record * MOST_NUMBERS + leaf, number);
        }
    }

    /** The latest states, the oldest one first. */
    private static final class History {
        private final State[] states;
        private int size;

        History() {
            states = new State[MOST_STATES];
            for (int i = 0; i < states.length; i++) {
                states[i] = new State();
            }
            size = 0;
        }

        int size() {
            return size;
        }

        void keep(State state) {
            if (size >= states.length) {
                forgetOldest();
            }
            if (size >= 0 && size < states.length) {
                State place = states[size];
                if (place != null) {
                    place.copyFrom(state);
                    size++;
                }
            }
        }

        /** The oldest state's object goes to the free end, to be used again. */
        private void forgetOldest() {
            for (int i = 1; i < states.length; i++) {
                State earlier = states[i - 1];
                states[i - 1] = states[i];
                states[i] = earlier;
            }
            if (size > 0) {
                size--;
            }
        }

        void restore(State state) {
            if (size > 0 && size <= states.length) {
                State latest = states[size - 1];
                if (latest != null) {
                    state.copyFrom(latest);
                    size--;
                }
            }
        }
    }

    /**
     * The reading of a text as a record, sign by sign. The form and the numbers that it collects are taken
     * over only if the record is accepted; paths that are new stand behind the known ones till then.
     */
    private static final class Reading {
        private static final int AT_START = 0;
        private static final int BEHIND_OPENING = 1;
        private static final int BEHIND_COMMA = 2;
        private static final int BEHIND_LETTER = 3;
        private static final int BEHIND_COLON = 4;
        private static final int IN_NUMBER = 5;
        private static final int BEHIND_FIELD = 6;
        private static final int AT_END = 7;

        final Paths paths;
        final Form form;
        final Row numbers;
        private int step;
        private int level;
        private int open;
        private int named;

        Reading() {
            paths = new Paths();
            form = new Form();
            numbers = new Row(MOST_NUMBERS);
            step = AT_START;
            level = 0;
            open = NONE;
            named = NONE;
        }

        void begin(int pathsKnown) {
            paths.cutTo(pathsKnown);
            form.clear();
            numbers.cutTo(0);
            step = AT_START;
            level = 0;
            open = NONE;
            named = NONE;
        }

        boolean isComplete() {
            return step == AT_END;
        }

        /** Takes the next sign; answers false if it is not allowed where it stands. */
        boolean take(int sign) {
            if (sign == ' ') {
                takeSpace();
                return true;
            }
            switch (step) {
                case AT_START: return takeOpening(sign, NONE);
                case BEHIND_OPENING: return sign == '}' ? takeClosing() : takeLetter(sign);
                case BEHIND_COMMA: return takeLetter(sign);
                case BEHIND_LETTER: return takeColon(sign);
                case BEHIND_COLON: return isDigit(sign) ? takeFirstDigit(sign) : takeOpening(sign, named);
                case IN_NUMBER: return isDigit(sign) ? takeNextDigit(sign) : takeFieldEnd(sign);
                case BEHIND_FIELD: return takeFieldEnd(sign);
                default: return false;
            }
        }

        private static boolean isDigit(int sign) {
            return sign >= '0' && sign <= '9';
        }

        private void takeSpace() {
            if (step == IN_NUMBER) {
                step = BEHIND_FIELD;
            }
        }

        private boolean takeOpening(int sign, int branch) {
            if (sign != '{' || level >= MOST_LEVELS) {
                return false;
            }
            if (branch != NONE) {
                form.add(BRANCH + branch);
            }
            open = branch;
            level++;
            step = BEHIND_OPENING;
            return true;
        }

        private boolean takeClosing() {
            open = paths.outerOf(open);
            level--;
            step = level == 0 ? AT_END : BEHIND_FIELD;
            return true;
        }

        private boolean takeLetter(int sign) {
            if (sign < 'a' || sign > 'z') {
                return false;
            }
            named = paths.findOrAdd(sign, open);
            step = BEHIND_LETTER;
            return !form.holds(named) && !form.holds(BRANCH + named);
        }

        private boolean takeColon(int sign) {
            step = BEHIND_COLON;
            return sign == ':';
        }

        private boolean takeFirstDigit(int sign) {
            if (numbers.size() >= MOST_NUMBERS) {
                return false;
            }
            form.add(named);
            numbers.add(sign - '0');
            step = IN_NUMBER;
            return true;
        }

        private boolean takeNextDigit(int sign) {
            int last = numbers.size() - 1;
            int number = numbers.at(last);
            if (number <= 0 || number > MOST_VALUE / 10) {
                return false;
            }
            numbers.put(last, number * 10 + sign - '0');
            return true;
        }

        private boolean takeFieldEnd(int sign) {
            if (sign == '}') {
                return takeClosing();
            }
            step = BEHIND_COMMA;
            return sign == ',';
        }
    }
}
