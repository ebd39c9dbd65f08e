/**
 * Reads modules of a stack machine's binary code and checks them. The bytes are read once: the first
 * fault of form (1 or 4) ends the reading, while what means nothing (2) is only noted, since its
 * order is another than that of the bytes.
 */
public final class ModuleCheck {
    private static final int MOST_IN_TRAY = 16000;
    private static final int MOST_FED = 65536;
    private static final int BYTES_OF_A_FEED = 20;

    private static final int NOT_SO = 1;
    private static final int MEANS_NOTHING = 2;
    private static final int TOO_MUCH = 4;

    private static final int INT = 127;
    private static final int LONG = 126;
    private static final int NOTHING = 64;
    private static final int UNKNOWN = 0;

    private static final int SIGNATURES = 1;
    private static final int IMPORTS = 2;
    private static final int OWN_FUNCTIONS = 3;
    private static final int TABLES = 4;
    private static final int MEMORIES = 5;
    private static final int GLOBALS = 6;
    private static final int EXPORTS = 7;
    private static final int START = 8;
    private static final int ELEMENTS = 9;
    private static final int BODIES = 10;
    private static final int DATA = 11;
    private static final int TOLD_DATA = 12;
    private static final int SECTIONS = 13;

    private static final int MOST_SIGNATURES = 64;
    private static final int MOST_PARAMETERS = 16;
    private static final int MOST_IMPORTS = 32;
    private static final int MOST_OWN_FUNCTIONS = 64;
    private static final int MOST_OWN_GLOBALS = 32;
    private static final int MOST_EXPORTS = 64;
    private static final int MOST_SEGMENTS = 32;
    private static final int MOST_IN_ROW = 256;
    private static final int MOST_IN_NAME = 100;
    private static final int MOST_IN_OUTER_NAME = 40;
    private static final int MOST_LOCALS = 64;
    private static final int MOST_BLOCKS = 60;
    private static final int MOST_PAGES = 65536;

    /* How many groups an S and an L have at most, and the highest last group without a sign. */
    private static final int INT_GROUPS = 5;
    private static final int INT_TOP = 7;
    private static final int LONG_GROUPS = 10;
    private static final int LONG_TOP = 0;

    private static final int FUNCTION = 0;
    private static final int TABLE = 1;
    private static final int MEMORY = 2;
    private static final int GLOBAL = 3;

    /* What means nothing, in the document's order: what stands under a smaller number comes first. */
    private static final int IN_IMPORTS = 0;
    private static final int IN_FUNCTIONS = 1;
    private static final int SECOND_TABLE = 2;
    private static final int TABLE_LIMITS = 3;
    private static final int SECOND_MEMORY = 4;
    private static final int MEMORY_LIMITS = 5;
    private static final int GLOBAL_CONSTANT = 6;
    private static final int EXPORT_NOT_THERE = 7;
    private static final int EXPORT_TWICE = 8;
    private static final int IN_START = 9;
    private static final int ELEMENT_WITHOUT_TABLE = 10;
    private static final int ELEMENT_CONSTANT = 11;
    private static final int ELEMENT_FUNCTION = 12;
    private static final int DATA_WITHOUT_MEMORY = 13;
    private static final int DATA_CONSTANT = 14;
    private static final int IN_BODIES = 15;
    private static final int ORDERS = 16;

    private static final int UNREACHABLE = 0;
    private static final int BLOCK = 2;
    private static final int LOOP = 3;
    private static final int IF = 4;
    private static final int ELSE = 5;
    private static final int END = 11;
    private static final int BR = 12;
    private static final int BR_IF = 13;
    private static final int BR_TABLE = 14;
    private static final int RETURN = 15;
    private static final int CALL = 16;
    private static final int CALL_INDIRECT = 17;
    private static final int DROP = 26;
    private static final int SELECT = 27;
    private static final int LOCAL_GET = 32;
    private static final int LOCAL_SET = 33;
    private static final int LOCAL_TEE = 34;
    private static final int GLOBAL_GET = 35;
    private static final int GLOBAL_SET = 36;
    private static final int FIRST_ACCESS = 40;
    private static final int FIRST_STORE = 54;
    private static final int LAST_ACCESS = 62;
    private static final int MEMORY_SIZE = 63;
    private static final int MEMORY_GROW = 64;
    private static final int INT_CONST = 65;
    private static final int LONG_CONST = 66;
    private static final int LONGER = 252;
    private static final int LONGER_FROM = 256;
    private static final int MEMORY_INIT = LONGER_FROM + 8;
    private static final int DATA_DROP = LONGER_FROM + 9;
    private static final int MEMORY_COPY = LONGER_FROM + 10;
    private static final int MEMORY_FILL = LONGER_FROM + 11;
    private static final int TABLE_INIT = LONGER_FROM + 12;
    private static final int ELEM_DROP = LONGER_FROM + 13;
    private static final int TABLE_COPY = LONGER_FROM + 14;

    /* How many items each section may have, by its number; those of no limit are bounded by the tray. */
    private static final int[] MOST_ITEMS = {
        1, MOST_SIGNATURES, MOST_IMPORTS, MOST_OWN_FUNCTIONS, MOST_IN_TRAY, MOST_IN_TRAY, MOST_OWN_GLOBALS,
        MOST_EXPORTS, 1, MOST_SEGMENTS, MOST_IN_TRAY, MOST_SEGMENTS, 1
    };

    private static final int[] HEADER = {0, 97, 115, 109, 1, 0, 0, 0};

    /* The place of each section, by its number, in the order that they keep. */
    private static final int[] SECTION_ORDER = {0, 1, 2, 3, 4, 5, 6, 7, 8, 9, 11, 12, 10};

    /* The instructions of one byte that there are: the first and the last of each run. */
    private static final int[] INSTRUCTION_RUNS = {
        0, 5, 11, 17, 26, 27, 32, 36, 40, 41, 44, 55, 58, 66, 69, 90, 103, 138, 167, 167, 172, 173, 192, 196
    };

    /* The powers of two of the widths of loads and stores, from FIRST_ACCESS on; -1 where there is none. */
    private static final int[] ACCESS_WIDTHS = {
        2, 3, -1, -1, 0, 0, 1, 1, 0, 0, 1, 1, 2, 2, 2, 3, -1, -1, 0, 1, 0, 1, 2
    };

    private final Input input;
    private final Facts facts;
    private final Sections sections;
    private final Answers draft;
    private final Answers kept;
    private int fed;
    private int latestPlace;

    public ModuleCheck() {
        input = new Input();
        facts = new Facts();
        draft = new Answers();
        kept = new Answers();
        sections = new Sections(input, facts, draft);
        fed = 0;
        latestPlace = -1;
    }

    public int feed(int a, int b, int c, int d, int e) {
        if (input.size > MOST_IN_TRAY - BYTES_OF_A_FEED || fed > MOST_FED - BYTES_OF_A_FEED) {
            return -1;
        }
        input.add(a);
        input.add(b);
        input.add(c);
        input.add(d);
        input.add(e);
        fed += BYTES_OF_A_FEED;
        return input.size;
    }

    public boolean end(int n) {
        if (n < 0 || n > input.size) {
            return false;
        }
        input.size = n;
        return true;
    }

    public int check() {
        sections.begin();
        for (int i = 0; i < MOST_IN_TRAY && sections.areMore(); i++) {
            sections.readSection();
        }
        sections.finish();
        input.size = 0;
        int fault = input.fault;
        latestPlace = input.faultAt;
        if (fault == 0) {
            latestPlace = facts.firstWrong();
            fault = latestPlace < 0 ? 0 : MEANS_NOTHING;
        }
        if (fault == 0) {
            draft.fillCounts(facts);
            kept.copy(draft);
        }
        return fault;
    }

    public int place() {
        return latestPlace;
    }

    public int count(int what) {
        return kept.countOf(what);
    }

    public int instructions(int f) {
        return kept.has(f) ? kept.codeCounts[f] : -1;
    }

    public int code(int f, int i) {
        return kept.has(f) ? kept.codeAt(f, i) : -1;
    }

    public int locals(int f) {
        return kept.has(f) ? kept.localCounts[f] : -1;
    }

    /**
     * The tray, and how far it is read. The first fault stays; what is asked for behind it is 0, so
     * that a reader of several items need not look between them.
     */
    private static final class Input {
        private final byte[] bytes = new byte[MOST_IN_TRAY];
        private int size;
        private int at;
        private int end;
        private int fault;
        private int faultAt;

        private void add(int word) {
            for (int shift = 24; shift >= 0; shift -= 8) {
                if (size >= 0 && size < bytes.length) {
                    bytes[size] = (byte) (word >>> shift);
                    size++;
                }
            }
        }

        private void restart() {
            at = 0;
            end = size;
            fault = 0;
            faultAt = -1;
        }

        private void fail(int number, int where) {
            if (fault == 0) {
                fault = number;
                faultAt = where;
            }
        }

        private int octet() {
            if (fault != 0) {
                return 0;
            }
            if (at < 0 || at >= end || at >= bytes.length) {
                fault = NOT_SO;
                faultAt = end;
                return 0;
            }
            int value = bytes[at] & 255;
            at++;
            return value;
        }

        private int octetWithin(int least, int most) {
            int where = at;
            int value = octet();
            if (value < least || value > most) {
                fail(NOT_SO, where);
            }
            return value;
        }

        private int type() {
            return octetWithin(LONG, INT);
        }

        private int blockType() {
            int where = at;
            int value = octet();
            if (value != NOTHING && value != INT && value != LONG) {
                fail(NOT_SO, where);
            }
            return value;
        }

        private long number() {
            int where = at;
            long value = 0;
            for (int group = 0; group < 5 && fault == 0; group++) {
                int part = octet();
                if (group == 4 && part > 15) {
                    fail(NOT_SO, where);
                }
                value |= (long) (part & 127) << (7 * group);
                if (part < 128) {
                    break;
                }
            }
            return fault == 0 ? value : 0;
        }

        /** A number with a sign; top is the highest that the last group can be without the sign. */
        private void skipSigned(int mostGroups, int top) {
            int where = at;
            for (int group = 1; group <= mostGroups && fault == 0; group++) {
                int part = octet();
                if (group == mostGroups && part > top && (part < 127 - top || part > 127)) {
                    fail(NOT_SO, where);
                }
                if (part < 128) {
                    break;
                }
            }
        }

        /** How many items a row has. More than a tray has bytes are never all there, so they need no count. */
        private int rowLength() {
            return (int) Math.min(number(), MOST_IN_TRAY);
        }

        /** How many bytes follow, as a U tells it. */
        private int length() {
            int where = at;
            long told = number();
            if (told > end - at) {
                fail(NOT_SO, where);
            }
            return fault == 0 ? (int) told : 0;
        }

        /** Reads a NAME, which then ends where the reading stands; its length. */
        private int name() {
            int where = at;
            long told = number();
            if (told < 1 || told > MOST_IN_NAME || told > end - at) {
                fail(NOT_SO, where);
            }
            int length = fault == 0 ? (int) told : 0;
            for (int i = 0; i < length && fault == 0; i++) {
                int sign = octet();
                if (sign < 33 || sign > 126) {
                    fail(NOT_SO, where);
                }
            }
            return fault == 0 ? length : 0;
        }

        private int outerName() {
            int where = at;
            int length = name();
            if (length > MOST_IN_OUTER_NAME) {
                fail(TOO_MUCH, where);
            }
            return length;
        }

        /** Makes the bytes that a U tells the only ones to be read; where those around them end. */
        private int enter() {
            int outerEnd = end;
            int length = length();
            if (fault == 0) {
                end = at + length;
            }
            return outerEnd;
        }

        private void leave(int outerEnd) {
            if (at < end) {
                fail(NOT_SO, at);
            }
            end = outerEnd;
        }

        private void skipRest() {
            at = Math.max(at, end);
        }

        private boolean sameBytes(int one, int other, int length) {
            if (one < 0 || other < 0 || one > bytes.length - length || other > bytes.length - length) {
                return false;
            }
            for (int i = 0; i < length; i++) {
                if (bytes[one + i] != bytes[other + i]) {
                    return false;
                }
            }
            return true;
        }
    }

    /** What a module is found to have while it is read, and where it means nothing. */
    private static final class Facts {
        private final int[] parameterCounts = new int[MOST_SIGNATURES];
        private final int[] parameters = new int[MOST_SIGNATURES * MOST_PARAMETERS];
        private final int[] results = new int[MOST_SIGNATURES];
        private final int[] functionSignatures = new int[MOST_IMPORTS + MOST_OWN_FUNCTIONS];
        private final int[] globalTypes = new int[MOST_IMPORTS + MOST_OWN_GLOBALS];
        private final boolean[] globalChanges = new boolean[MOST_IMPORTS + MOST_OWN_GLOBALS];
        private final int[] wrongAt = new int[ORDERS];
        private final int[] items = new int[SECTIONS];
        private int functions;
        private int importedFunctions;
        private int tables;
        private int memories;
        private int globals;
        private int importedGlobals;
        private long toldData;

        private void clear() {
            for (int i = 0; i < wrongAt.length; i++) {
                wrongAt[i] = -1;
            }
            for (int i = 0; i < items.length; i++) {
                items[i] = 0;
            }
            functions = 0;
            importedFunctions = 0;
            tables = 0;
            memories = 0;
            globals = 0;
            importedGlobals = 0;
            toldData = -1;
        }

        private void noteWrong(int order, int where) {
            if (order >= 0 && order < wrongAt.length && wrongAt[order] < 0) {
                wrongAt[order] = where;
            }
        }

        private int firstWrong() {
            for (int i = 0; i < wrongAt.length; i++) {
                if (wrongAt[i] >= 0) {
                    return wrongAt[i];
                }
            }
            return -1;
        }

        private void addParameter(int index, int type) {
            int signature = items[SIGNATURES];
            int cell = signature * MOST_PARAMETERS + index;
            if (signature < parameterCounts.length && index < MOST_PARAMETERS && cell < parameters.length) {
                parameters[cell] = type;
                parameterCounts[signature] = index + 1;
            }
        }

        private void addFunction(long signature) {
            if (functions < functionSignatures.length) {
                functionSignatures[functions] = signature < items[SIGNATURES] ? (int) signature : -1;
                functions++;
            }
        }

        private void addGlobal(int type, boolean changes) {
            if (globals < globalTypes.length) {
                globalTypes[globals] = type;
                globalChanges[globals] = changes;
                globals++;
            }
        }

        /** The number of a function's signature; -1 if there is no such function, or none of that number. */
        private int signatureOf(long function) {
            if (function < 0 || function >= functions || function >= functionSignatures.length) {
                return -1;
            }
            return functionSignatures[(int) function];
        }

        private int parameterCount(int signature) {
            return signature >= 0 && signature < parameterCounts.length ? parameterCounts[signature] : 0;
        }

        private int parameter(int signature, int index) {
            int cell = signature * MOST_PARAMETERS + index;
            return cell >= 0 && cell < parameters.length ? parameters[cell] : UNKNOWN;
        }

        private int resultOf(int signature) {
            return signature >= 0 && signature < results.length ? results[signature] : NOTHING;
        }

        /** How many there are that an import or export can name by this kind. */
        private int countOfKind(int kind) {
            switch (kind) {
                case FUNCTION:
                    return functions;
                case TABLE:
                    return tables;
                case MEMORY:
                    return memories;
                default:
                    return globals;
            }
        }

        private boolean isUnchangedImport(long global) {
            return global < importedGlobals && global < globals && !changesGlobal((int) global);
        }

        private boolean changesGlobal(int global) {
            return global >= 0 && global < globalChanges.length && globalChanges[global];
        }

        private int typeOfGlobal(int global) {
            return global >= 0 && global < globalTypes.length ? globalTypes[global] : UNKNOWN;
        }
    }

    /** Reads a module section by section. */
    private static final class Sections {
        private final Input in;
        private final Facts facts;
        private final Bodies bodies;
        private final int[] nameStarts = new int[MOST_EXPORTS];
        private final int[] nameLengths = new int[MOST_EXPORTS];
        private int lastInOrder;

        private Sections(Input input, Facts found, Answers draft) {
            in = input;
            facts = found;
            bodies = new Bodies(input, found, draft);
        }

        private void begin() {
            in.restart();
            facts.clear();
            bodies.begin();
            lastInOrder = 0;
            for (int i = 0; i < HEADER.length; i++) {
                in.octetWithin(HEADER[i], HEADER[i]);
            }
        }

        private boolean areMore() {
            return in.fault == 0 && in.at < in.end;
        }

        private void finish() {
            fit(BODIES);
            fit(DATA);
        }

        private void readSection() {
            int section = readSectionNumber();
            int moduleEnd = in.enter();
            int items = isRow(section) ? in.rowLength() : 1;
            for (int i = 0; i < items && in.fault == 0; i++) {
                refuseBeyond(i, MOST_ITEMS[section]);
                switch (section) {
                    case SIGNATURES:
                        readSignature();
                        break;
                    case IMPORTS:
                        readImport();
                        break;
                    case OWN_FUNCTIONS:
                        readSignatureOfFunction(IN_FUNCTIONS);
                        break;
                    case TABLES:
                        readTable();
                        break;
                    case MEMORIES:
                        readMemory();
                        break;
                    case GLOBALS:
                        readGlobal();
                        break;
                    case EXPORTS:
                        readExport();
                        break;
                    case START:
                        readStart();
                        break;
                    case ELEMENTS:
                        readElement();
                        break;
                    case BODIES:
                        bodies.readBody(i);
                        break;
                    case DATA:
                        readData();
                        break;
                    case TOLD_DATA:
                        facts.toldData = in.number();
                        break;
                    default:
                        in.name();
                        in.skipRest();
                        break;
                }
                facts.items[section]++;
            }
            in.leave(moduleEnd);
            fit(section);
        }

        private int readSectionNumber() {
            int where = in.at;
            int section = in.octetWithin(0, SECTIONS - 1);
            if (section <= 0 || section >= SECTIONS) {
                return 0;
            }
            if (SECTION_ORDER[section] <= lastInOrder) {
                in.fail(NOT_SO, where);
            }
            lastInOrder = SECTION_ORDER[section];
            return section;
        }

        private static boolean isRow(int section) {
            return section != 0 && section != START && section != TOLD_DATA;
        }

        /** Looks, where a section ends, if another one told of it. */
        private void fit(int section) {
            if (section == BODIES && facts.items[BODIES] != facts.items[OWN_FUNCTIONS]) {
                in.fail(NOT_SO, in.at);
            }
            if (section == DATA && facts.toldData >= 0 && facts.items[DATA] != facts.toldData) {
                in.fail(NOT_SO, in.at);
            }
        }

        private void refuseBeyond(int already, int most) {
            if (already >= most) {
                in.fail(TOO_MUCH, in.at);
            }
        }

        private void readSignature() {
            in.octetWithin(96, 96);
            int signature = facts.items[SIGNATURES];
            if (in.fault != 0 || signature >= facts.results.length) {
                return;
            }
            facts.parameterCounts[signature] = 0;
            facts.results[signature] = NOTHING;
            int parameters = in.rowLength();
            for (int i = 0; i < parameters && in.fault == 0; i++) {
                refuseBeyond(i, MOST_PARAMETERS);
                facts.addParameter(i, in.type());
            }
            int results = in.rowLength();
            for (int i = 0; i < results && in.fault == 0; i++) {
                refuseBeyond(i, 1);
                facts.results[signature] = in.type();
            }
        }

        private void readImport() {
            int where = in.at;
            in.outerName();
            in.outerName();
            switch (in.octetWithin(FUNCTION, GLOBAL)) {
                case FUNCTION:
                    readSignatureOfFunction(IN_IMPORTS);
                    facts.importedFunctions++;
                    break;
                case TABLE:
                    in.octetWithin(112, 112);
                    readLimits(IN_IMPORTS, false);
                    addTable(where);
                    break;
                case MEMORY:
                    readLimits(IN_IMPORTS, true);
                    addMemory(where);
                    break;
                default:
                    int type = in.type();
                    facts.addGlobal(type, in.octetWithin(0, 1) == 1);
                    facts.importedGlobals++;
                    break;
            }
        }

        private void readSignatureOfFunction(int order) {
            int where = in.at;
            long signature = in.number();
            if (signature >= facts.items[SIGNATURES]) {
                facts.noteWrong(order, where);
            }
            facts.addFunction(signature);
        }

        private void readLimits(int order, boolean ofMemory) {
            int where = in.at;
            boolean hasMost = in.octetWithin(0, 1) == 1;
            long least = in.number();
            long most = hasMost ? in.number() : least;
            if (most < least || ofMemory && most > MOST_PAGES) {
                facts.noteWrong(order, where);
            }
        }

        private void addTable(int where) {
            facts.tables++;
            if (facts.tables > 1) {
                facts.noteWrong(SECOND_TABLE, where);
            }
        }

        private void addMemory(int where) {
            facts.memories++;
            if (facts.memories > 1) {
                facts.noteWrong(SECOND_MEMORY, where);
            }
        }

        private void readTable() {
            addTable(in.at);
            in.octetWithin(112, 112);
            readLimits(TABLE_LIMITS, false);
        }

        private void readMemory() {
            addMemory(in.at);
            readLimits(MEMORY_LIMITS, true);
        }

        private void readGlobal() {
            int type = in.type();
            boolean changes = in.octetWithin(0, 1) == 1;
            readConstant(GLOBAL_CONSTANT, type);
            facts.addGlobal(type, changes);
        }

        private void readConstant(int order, int wanted) {
            int where = in.at;
            int found = UNKNOWN;
            switch (in.octet()) {
                case INT_CONST:
                    in.skipSigned(INT_GROUPS, INT_TOP);
                    found = INT;
                    break;
                case LONG_CONST:
                    in.skipSigned(LONG_GROUPS, LONG_TOP);
                    found = LONG;
                    break;
                case GLOBAL_GET:
                    long global = in.number();
                    if (facts.isUnchangedImport(global)) {
                        found = facts.typeOfGlobal((int) global);
                    }
                    break;
                default:
                    in.fail(NOT_SO, where);
                    break;
            }
            in.octetWithin(END, END);
            if (found != wanted) {
                facts.noteWrong(order, where);
            }
        }

        private void readExport() {
            int where = in.at;
            int length = in.outerName();
            int start = in.at - length;
            int kind = in.octetWithin(FUNCTION, GLOBAL);
            int indexAt = in.at;
            long index = in.number();
            if (index >= facts.countOfKind(kind)) {
                facts.noteWrong(EXPORT_NOT_THERE, indexAt);
            }
            if (isExported(start, length)) {
                facts.noteWrong(EXPORT_TWICE, where);
            }
            int export = facts.items[EXPORTS];
            if (export < nameStarts.length) {
                nameStarts[export] = start;
                nameLengths[export] = length;
            }
        }

        private boolean isExported(int start, int length) {
            for (int i = 0; i < facts.items[EXPORTS] && i < nameStarts.length; i++) {
                if (nameLengths[i] == length && in.sameBytes(nameStarts[i], start, length)) {
                    return true;
                }
            }
            return false;
        }

        private void readStart() {
            int where = in.at;
            int signature = facts.signatureOf(in.number());
            if (signature < 0 || facts.parameterCount(signature) > 0 || facts.resultOf(signature) != NOTHING) {
                facts.noteWrong(IN_START, where);
            }
        }

        private void readElement() {
            int where = in.at;
            switch (in.octet()) {
                case 0:
                    if (facts.tables == 0) {
                        facts.noteWrong(ELEMENT_WITHOUT_TABLE, where);
                    }
                    readConstant(ELEMENT_CONSTANT, INT);
                    break;
                case 1:
                case 3:
                    in.octetWithin(0, 0);
                    break;
                default:
                    in.fail(NOT_SO, where);
                    break;
            }
            readRowOfFunctions();
        }

        private void readRowOfFunctions() {
            int where = in.at;
            int many = in.rowLength();
            if (many > MOST_IN_ROW) {
                in.fail(TOO_MUCH, where);
            }
            for (int i = 0; i < many && in.fault == 0; i++) {
                int indexAt = in.at;
                if (in.number() >= facts.functions) {
                    facts.noteWrong(ELEMENT_FUNCTION, indexAt);
                }
            }
        }

        private void readData() {
            int where = in.at;
            if (in.octetWithin(0, 1) == 0) {
                if (facts.memories == 0) {
                    facts.noteWrong(DATA_WITHOUT_MEMORY, where);
                }
                readConstant(DATA_CONSTANT, INT);
            }
            int length = in.length();
            in.at += length;
        }
    }

    /** Reads bodies: their locals, and their instructions, which are followed until one is wrong. */
    private static final class Bodies {
        private final Input in;
        private final Facts facts;
        private final Frames frames = new Frames();
        private final Instruction next = new Instruction();
        private final Typing typing;
        private final Answers answers;
        private boolean followed;

        private Bodies(Input input, Facts found, Answers draft) {
            in = input;
            facts = found;
            answers = draft;
            typing = new Typing(found, frames);
        }

        private void begin() {
            answers.codesUsed = 0;
            followed = true;
        }

        private void readBody(int body) {
            int sectionEnd = in.enter();
            // A body beyond the own functions, or of a signature that is not there, is a fault elsewhere.
            int signature = facts.signatureOf(facts.importedFunctions + body);
            if (signature < 0) {
                followed = false;
            }
            typing.begin(signature);
            readGroups();
            answers.beginBody(body, typing.localCount);
            for (int i = 0; i < MOST_IN_TRAY && frames.depth >= 0 && in.fault == 0; i++) {
                readInstruction();
            }
            answers.endBody(body);
            in.leave(sectionEnd);
        }

        private void readGroups() {
            int groups = in.rowLength();
            long declared = 0;
            for (int i = 0; i < groups && in.fault == 0; i++) {
                int where = in.at;
                long many = in.number();
                int type = in.type();
                declared += many;
                if (declared > MOST_LOCALS) {
                    in.fail(TOO_MUCH, where);
                } else {
                    typing.addLocals((int) many, type);
                }
            }
        }

        private void readInstruction() {
            next.readNumber(in);
            lookWhereItStands();
            if (next.number == BR_TABLE) {
                next.readLabels(in);
            } else {
                next.readArguments(in);
            }
            if (in.fault != 0) {
                return;
            }
            answers.addCode(next.number);
            if (followed && !typing.isRight(next)) {
                facts.noteWrong(IN_BODIES, next.where);
                followed = false;
            }
            turnFrames();
        }

        private void lookWhereItStands() {
            switch (next.number) {
                case BLOCK:
                case LOOP:
                case IF:
                    if (frames.depth >= MOST_BLOCKS) {
                        in.fail(TOO_MUCH, next.where);
                    }
                    break;
                case ELSE:
                    if (frames.openedBy() != IF) {
                        in.fail(NOT_SO, next.where);
                    }
                    break;
                case MEMORY_INIT:
                case DATA_DROP:
                    if (facts.toldData < 0) {
                        in.fail(NOT_SO, next.where);
                    }
                    break;
                default:
                    break;
            }
        }

        private void turnFrames() {
            switch (next.number) {
                case BLOCK:
                case LOOP:
                case IF:
                    frames.open(next.number, (int) next.argument);
                    break;
                case ELSE:
                    frames.turnToElse();
                    break;
                case END:
                    frames.close();
                    break;
                default:
                    break;
            }
        }
    }

    /** The instruction that was read last. */
    private static final class Instruction {
        private final long[] labels = new long[MOST_IN_ROW + 1];
        private int labelCount;
        private int where;
        private int number;
        private long argument;

        private void readNumber(Input in) {
            where = in.at;
            number = in.octet();
            if (number == LONGER) {
                int secondAt = in.at;
                long second = in.number();
                if (second < 8 || second > 14) {
                    in.fail(NOT_SO, secondAt);
                    second = 8;
                }
                number = LONGER_FROM + (int) second;
            } else if (!isOfOneByte(number)) {
                in.fail(NOT_SO, where);
            }
        }

        private static boolean isOfOneByte(int number) {
            for (int i = 0; i + 1 < INSTRUCTION_RUNS.length; i += 2) {
                if (number <= INSTRUCTION_RUNS[i + 1]) {
                    return number >= INSTRUCTION_RUNS[i];
                }
            }
            return false;
        }

        private void readArguments(Input in) {
            switch (number) {
                case BLOCK:
                case LOOP:
                case IF:
                    argument = in.blockType();
                    break;
                case BR:
                case BR_IF:
                case CALL:
                case LOCAL_GET:
                case LOCAL_SET:
                case LOCAL_TEE:
                case GLOBAL_GET:
                case GLOBAL_SET:
                case DATA_DROP:
                case ELEM_DROP:
                    argument = in.number();
                    break;
                case CALL_INDIRECT:
                case MEMORY_INIT:
                case TABLE_INIT:
                    argument = in.number();
                    in.octetWithin(0, 0);
                    break;
                case MEMORY_COPY:
                case TABLE_COPY:
                    in.octetWithin(0, 0);
                    in.octetWithin(0, 0);
                    break;
                case MEMORY_SIZE:
                case MEMORY_GROW:
                case MEMORY_FILL:
                    in.octetWithin(0, 0);
                    break;
                case INT_CONST:
                    in.skipSigned(INT_GROUPS, INT_TOP);
                    break;
                case LONG_CONST:
                    in.skipSigned(LONG_GROUPS, LONG_TOP);
                    break;
                default:
                    if (number >= FIRST_ACCESS && number <= LAST_ACCESS) {
                        argument = in.number();
                        in.number();
                    }
                    break;
            }
        }

        private void readLabels(Input in) {
            int rowAt = in.at;
            int many = in.rowLength();
            if (many > MOST_IN_ROW) {
                in.fail(TOO_MUCH, rowAt);
            }
            labelCount = 0;
            for (int i = 0; i <= many && in.fault == 0 && i < labels.length; i++) {
                labels[i] = in.number();
                labelCount++;
            }
        }
    }

    /** The frames that are open in a body, and the types on its stack. */
    private static final class Frames {
        private final int[] openers = new int[MOST_BLOCKS + 1];
        private final int[] results = new int[MOST_BLOCKS + 1];
        private final int[] bases = new int[MOST_BLOCKS + 1];
        private final boolean[] unknown = new boolean[MOST_BLOCKS + 1];
        private final byte[] types = new byte[MOST_IN_TRAY];
        private int depth;
        private int height;
        private boolean right;

        private void begin(int result) {
            depth = -1;
            height = 0;
            open(BLOCK, result);
        }

        private void open(int opener, int result) {
            if (depth >= -1 && depth + 1 < openers.length) {
                depth++;
                openers[depth] = opener;
                results[depth] = result;
                bases[depth] = height;
                unknown[depth] = false;
            }
        }

        private void turnToElse() {
            if (depth >= 0 && depth < openers.length) {
                openers[depth] = ELSE;
                height = bases[depth];
                unknown[depth] = false;
            }
        }

        private void close() {
            if (depth >= 0 && depth < bases.length) {
                height = bases[depth];
                leave(results[depth]);
                depth--;
            }
        }

        private int openedBy() {
            return depth >= 0 && depth < openers.length ? openers[depth] : UNREACHABLE;
        }

        private int result() {
            return depth >= 0 && depth < results.length ? results[depth] : NOTHING;
        }

        private int bodyResult() {
            return results[0];
        }

        private boolean isEmpty() {
            return depth >= 0 && depth < bases.length && height == bases[depth];
        }

        private int labelType(long label) {
            int frame = label >= 0 && label <= depth ? depth - (int) label : -1;
            if (frame < 0 || frame >= results.length) {
                right = false;
                return NOTHING;
            }
            return openers[frame] == LOOP ? NOTHING : results[frame];
        }

        private void demand(boolean so) {
            if (!so) {
                right = false;
            }
        }

        private void forget() {
            if (depth >= 0 && depth < bases.length) {
                height = bases[depth];
                unknown[depth] = true;
            }
        }

        private void leave(int type) {
            if (type != NOTHING && height >= 0 && height < types.length) {
                types[height] = (byte) type;
                height++;
            }
        }

        /** Takes a type, UNKNOWN being any; what was there. */
        private int take(int wanted) {
            if (wanted == NOTHING || depth < 0 || depth >= bases.length) {
                return NOTHING;
            }
            if (height <= bases[depth] || height < 1 || height > types.length) {
                right = right && unknown[depth];
                return UNKNOWN;
            }
            height--;
            int found = types[height];
            right = right && (found == wanted || found == UNKNOWN || wanted == UNKNOWN);
            return found;
        }
    }

    /** Follows a body's instructions by the types that they take and leave. */
    private static final class Typing {
        private final Facts facts;
        private final Frames frames;
        private final int[] localTypes = new int[MOST_PARAMETERS + MOST_LOCALS];
        private int localCount;

        private Typing(Facts found, Frames open) {
            facts = found;
            frames = open;
        }

        private void begin(int signature) {
            frames.begin(facts.resultOf(signature));
            localCount = 0;
            for (int i = 0; i < facts.parameterCount(signature); i++) {
                addLocals(1, facts.parameter(signature, i));
            }
        }

        private void addLocals(int many, int type) {
            for (int i = 0; i < many && localCount < localTypes.length; i++) {
                localTypes[localCount] = type;
                localCount++;
            }
        }

        private boolean isRight(Instruction instruction) {
            int number = instruction.number;
            frames.right = true;
            if (number <= ELSE || number == END) {
                followFrame(number);
            } else if (number == BR_TABLE) {
                followTable(instruction);
            } else if (number <= RETURN) {
                followLeap(number, instruction.argument);
            } else if (number <= CALL_INDIRECT) {
                followCall(number, instruction.argument);
            } else if (number <= SELECT) {
                followChoice(number);
            } else if (number <= LOCAL_TEE) {
                followLocal(number, instruction.argument);
            } else if (number <= GLOBAL_SET) {
                followGlobal(number, instruction.argument);
            } else if (number <= LAST_ACCESS) {
                followAccess(number, instruction.argument);
            } else if (number <= MEMORY_GROW) {
                followSize(number);
            } else if (number < LONGER_FROM) {
                followPlain(number);
            } else {
                followLonger(number, instruction.argument);
            }
            return frames.right;
        }

        private void followFrame(int number) {
            if (number == UNREACHABLE) {
                frames.forget();
            } else if (number == IF) {
                frames.take(INT);
            } else if (number == ELSE || number == END) {
                boolean isWithoutElse = number == END && frames.openedBy() == IF;
                frames.demand(!isWithoutElse || frames.result() == NOTHING);
                frames.take(frames.result());
                frames.demand(frames.isEmpty());
            }
        }

        private void followTable(Instruction table) {
            frames.take(INT);
            int type = NOTHING;
            for (int i = 0; i < table.labelCount && i < table.labels.length; i++) {
                int labelType = frames.labelType(table.labels[i]);
                frames.demand(i == 0 || labelType == type);
                type = labelType;
            }
            frames.take(type);
            frames.forget();
        }

        private void followLeap(int number, long label) {
            if (number == RETURN) {
                frames.take(frames.bodyResult());
                frames.forget();
                return;
            }
            int type = frames.labelType(label);
            if (number == BR_IF) {
                frames.take(INT);
                frames.take(type);
                frames.leave(type);
            } else {
                frames.take(type);
                frames.forget();
            }
        }

        private void followCall(int number, long called) {
            int signature = -1;
            if (number == CALL) {
                signature = facts.signatureOf(called);
            } else {
                frames.demand(facts.tables > 0);
                frames.take(INT);
                signature = called < facts.items[SIGNATURES] ? (int) called : -1;
            }
            frames.demand(signature >= 0);
            for (int i = facts.parameterCount(signature) - 1; i >= 0; i--) {
                frames.take(facts.parameter(signature, i));
            }
            frames.leave(facts.resultOf(signature));
        }

        private void followChoice(int number) {
            if (number == DROP) {
                frames.take(UNKNOWN);
                return;
            }
            frames.take(INT);
            int second = frames.take(UNKNOWN);
            int first = frames.take(UNKNOWN);
            frames.demand(first == second || first == UNKNOWN || second == UNKNOWN);
            frames.leave(first == UNKNOWN ? second : first);
        }

        private void followLocal(int number, long local) {
            if (local < 0 || local >= localCount || local >= localTypes.length) {
                frames.demand(false);
                return;
            }
            int type = localTypes[(int) local];
            if (number != LOCAL_GET) {
                frames.take(type);
            }
            if (number != LOCAL_SET) {
                frames.leave(type);
            }
        }

        private void followGlobal(int number, long global) {
            if (global < 0 || global >= facts.globals) {
                frames.demand(false);
                return;
            }
            int type = facts.typeOfGlobal((int) global);
            if (number == GLOBAL_GET) {
                frames.leave(type);
            } else {
                frames.demand(facts.changesGlobal((int) global));
                frames.take(type);
            }
        }

        private void followAccess(int number, long alignment) {
            int row = number - FIRST_ACCESS;
            frames.demand(facts.memories > 0);
            frames.demand(row >= 0 && row < ACCESS_WIDTHS.length && alignment <= ACCESS_WIDTHS[row]);
            boolean isOfLong = number == 41 || number >= 48 && number <= 53 || number == 55 || number >= 60;
            int type = isOfLong ? LONG : INT;
            if (number >= FIRST_STORE) {
                frames.take(type);
                frames.take(INT);
            } else {
                frames.take(INT);
                frames.leave(type);
            }
        }

        private void followSize(int number) {
            frames.demand(facts.memories > 0);
            if (number == MEMORY_GROW) {
                frames.take(INT);
            }
            frames.leave(INT);
        }

        private void followPlain(int number) {
            if (number == INT_CONST) {
                frames.leave(INT);
            } else if (number == LONG_CONST) {
                frames.leave(LONG);
            } else {
                int taken = takesLong(number) ? LONG : INT;
                frames.take(taken);
                if (takesTwo(number)) {
                    frames.take(taken);
                }
                frames.leave(leavesLong(number) ? LONG : INT);
            }
        }

        private static boolean takesLong(int number) {
            return number >= 80 && number <= 90 || number >= 121 && number <= 138 || number == 167 || number >= 194;
        }

        private static boolean takesTwo(int number) {
            return number >= 70 && number <= 79 || number >= 81 && number <= 90
                || number >= 106 && number <= 120 || number >= 124 && number <= 138;
        }

        private static boolean leavesLong(int number) {
            return number >= 121 && number <= 138 || number == 172 || number == 173 || number >= 194;
        }

        private void followLonger(int number, long segment) {
            if (number == MEMORY_INIT || number == DATA_DROP) {
                frames.demand(segment < facts.toldData);
            }
            if (number == TABLE_INIT || number == ELEM_DROP) {
                frames.demand(segment < facts.items[ELEMENTS]);
            }
            if (number == MEMORY_INIT || number == MEMORY_COPY || number == MEMORY_FILL) {
                frames.demand(facts.memories > 0);
            }
            if (number == TABLE_INIT || number == TABLE_COPY) {
                frames.demand(facts.tables > 0);
            }
            if (number != DATA_DROP && number != ELEM_DROP) {
                frames.take(INT);
                frames.take(INT);
                frames.take(INT);
            }
        }
    }

    /** What is answered about a module; one is kept while another is filled. */
    private static final class Answers {
        private final int[] counts = new int[SECTIONS];
        private final int[] firstCodes = new int[MOST_OWN_FUNCTIONS];
        private final int[] codeCounts = new int[MOST_OWN_FUNCTIONS];
        private final int[] localCounts = new int[MOST_OWN_FUNCTIONS];
        private final short[] codes = new short[MOST_IN_TRAY];
        private int codesUsed;
        private int functions;
        private boolean isFilled;

        private void beginBody(int body, int locals) {
            if (body >= 0 && body < firstCodes.length) {
                firstCodes[body] = codesUsed;
                localCounts[body] = locals;
            }
        }

        private void addCode(int number) {
            if (codesUsed >= 0 && codesUsed < codes.length) {
                codes[codesUsed] = (short) number;
                codesUsed++;
            }
        }

        private void endBody(int body) {
            if (body >= 0 && body < firstCodes.length) {
                codeCounts[body] = codesUsed - firstCodes[body];
            }
        }

        private void fillCounts(Facts facts) {
            for (int i = 0; i < counts.length; i++) {
                boolean isAnswered = i >= SIGNATURES && i <= DATA && i != START && i != BODIES;
                counts[i] = isAnswered ? facts.items[i] : -1;
            }
            functions = facts.items[OWN_FUNCTIONS];
        }

        private void copy(Answers other) {
            System.arraycopy(other.counts, 0, counts, 0, counts.length);
            System.arraycopy(other.firstCodes, 0, firstCodes, 0, firstCodes.length);
            System.arraycopy(other.codeCounts, 0, codeCounts, 0, codeCounts.length);
            System.arraycopy(other.localCounts, 0, localCounts, 0, localCounts.length);
            codesUsed = Math.max(0, Math.min(other.codesUsed, codes.length));
            System.arraycopy(other.codes, 0, codes, 0, codesUsed);
            functions = other.functions;
            isFilled = true;
        }

        private int countOf(int what) {
            return isFilled && what >= 0 && what < counts.length ? counts[what] : -1;
        }

        private boolean has(int function) {
            return function >= 0 && function < functions && function < firstCodes.length;
        }

        private int codeAt(int function, int index) {
            if (!has(function) || index < 0 || index >= codeCounts[function]) {
                return -1;
            }
            int cell = firstCodes[function] + index;
            return cell >= 0 && cell < codes.length ? codes[cell] : -1;
        }
    }
}
