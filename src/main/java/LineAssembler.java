import java.util.ArrayList;
import java.util.Arrays;

/**
 * An assembler for a small 32-bit hart: a text of lines becomes bytes, jumps and branches getting
 * as long as they must be, or the first fault is told with its line.
 */
public final class LineAssembler {
    private static final int LONGEST_TEXT = 65536;
    private static final int LONGEST_NAME = 31;
    private static final int HIGHEST_END = 32768;
    private static final int DATA_STEP = 1024;
    private static final int LOWEST = 0x80000000;
    private static final int HIGHEST = 0x7FFFFFFF;

    // The faults, as assemble() tells them.
    private static final int WRONG_TOKEN = 1;
    private static final int UNKNOWN_STATEMENT = 2;
    private static final int WRONG_REGISTER = 3;
    private static final int TAKEN_NAME = 4;
    private static final int NOT_FIXED = 5;
    private static final int WRONG_FIXED = 6;
    private static final int TOO_LONG = 7;
    private static final int UNKNOWN_NAME = 8;
    private static final int ZERO_DIVISOR = 9;
    private static final int OUT_OF_RANGE = 10;

    // The kinds of tokens; a sign's kind is its character, < and > standing for << and >>.
    private static final int END = 0;
    private static final int BAD = 1;
    private static final int NAME = 2;
    private static final int NUMBER = 3;
    private static final int DIGIT = 4;
    private static final int NEAR = 5;
    private static final int STRING = 6;

    // Steps of an expression that no token's kind stands for.
    private static final int HERE = 7;
    private static final int LABEL_BACK = 8;
    private static final int LABEL_AHEAD = 9;
    private static final int NEGATE = 10;
    private static final int INVERT = 11;
    private static final int HIGH_PART = 12;
    private static final int LOW_PART = 13;

    // What a name has been defined as.
    private static final int LABEL = 1;
    private static final int CONSTANT = 2;

    // How a statement's operands are read.
    private static final int BY_SHAPE = 0;
    private static final int TO_TEXT = 1;
    private static final int TO_DATA = 2;
    private static final int EQUATE = 3;
    private static final int NUMBERS = 4;
    private static final int STRINGS = 5;
    private static final int SPACE = 6;
    private static final int ALIGN = 7;
    private static final int LOAD_NUMBER = 8;
    private static final int JUMP_AND_LINK = 9;
    private static final int JUMP_TO_REGISTER = 10;

    // Marks of items, beside those of the shapes: what stands in their bytes.
    private static final int ALONE = 0;
    private static final int PLACE = 1;
    private static final int ZEROS = 2;
    private static final int PADDING = 3;
    private static final int LETTERS = 4;

    private final Row text = new Row();
    private final Names names = new Names();
    private final Tokens tokens = new Tokens();
    private final Row letters = new Row();
    private final Program program = new Program();
    private final Lexer lexer = new Lexer(text, names, tokens, letters);
    private final Formulas formulas = new Formulas(names, tokens, program);
    private final Parser parser = new Parser(names, tokens, program, formulas);
    private final Encoder encoder = new Encoder(program, formulas, letters);
    private boolean assembled = false;

    public LineAssembler() {
    }

    public boolean feed(long chars, int n) {
        if (n < 1 || n > 8 || text.count > LONGEST_TEXT - n) {
            return false;
        }
        for (int i = 0; i < n; i++) {
            if (!isOfText((int) (chars >>> 8 * i) & 255)) {
                return false;
            }
        }
        for (int i = n - 1; i >= 0; i--) {
            text.add((int) (chars >>> 8 * i) & 255);
        }
        return true;
    }

    public int clear() {
        int had = text.count;
        text.cut(0);
        return had;
    }

    public int assemble() {
        assembled = false;
        names.forget();
        program.empty();
        formulas.empty();
        lexer.readAll();
        int answer = 0;
        for (int number = 1; number <= tokens.lines && answer == 0; number++) {
            int fault = parser.readLine(number);
            if (fault != 0) {
                answer = fault + 16 * number;
            }
        }
        if (answer == 0) {
            encoder.settle();
            answer = program.end() > HIGHEST_END ? TOO_LONG : encoder.encodeAll();
        }
        assembled = answer == 0;
        return answer;
    }

    public int size(int what) throws IllegalStateException, IllegalArgumentException {
        if (!assembled) {
            throw new IllegalStateException("nothing is assembled");
        }
        switch (what) {
            case 0:
                return program.textEnd;
            case 1:
                return program.dataBegin;
            case 2:
                return program.end();
            case 3:
                return program.labels.count;
            case 4:
                return program.constants;
            case 5:
                return encoder.rounds;
            default:
                throw new IllegalArgumentException("no such size");
        }
    }

    public int byteAt(int k) throws IndexOutOfBoundsException {
        if (!assembled || k < 0 || k >= program.end()) {
            throw new IndexOutOfBoundsException("no such byte");
        }
        return encoder.image.get(k);
    }

    public int address(int k) throws IndexOutOfBoundsException {
        if (!isLabel(k)) {
            throw new IndexOutOfBoundsException("no such label");
        }
        return program.addressOf(program.labels.get(k));
    }

    public char letter(int k, int i) throws IndexOutOfBoundsException {
        int name = isLabel(k) ? program.find(program.labels.get(k)).word : -1;
        if (i < 0 || i >= names.lengthOf(name)) {
            throw new IndexOutOfBoundsException("no such letter");
        }
        return (char) names.letterOf(name, i);
    }

    public int line(int k) {
        return assembled && k >= 0 && k < program.end() ? encoder.lines.get(k) : 0;
    }

    public int before(int a) {
        int best = -1;
        int highest = 0;
        int all = assembled ? program.labels.count : 0;
        for (int k = 0; k < all; k++) {
            int address = program.addressOf(program.labels.get(k));
            if (address <= a && address >= highest) {
                best = k;
                highest = address;
            }
        }
        return best;
    }

    private boolean isLabel(int k) {
        return assembled && k >= 0 && k < program.labels.count;
    }

    private static boolean isOfText(int c) {
        return c == 9 || c == 10 || c >= 32 && c <= 126;
    }

    /** Ints in a row that grows and is used again; what lies outside of it reads as 0. */
    private static final class Row {
        int count = 0;
        private int[] cells = new int[64];

        void add(int value) {
            if (count >= cells.length) {
                cells = Arrays.copyOf(cells, 2 * count + 64);
            }
            cells[count] = value;
            count++;
        }

        int get(int at) {
            return at >= 0 && at < count ? cells[at] : 0;
        }

        void set(int at, int value) {
            if (at >= 0 && at < count) {
                cells[at] = value;
            }
        }

        /** Only the first ones stay. */
        void cut(int first) {
            if (first >= 0 && first < count) {
                count = first;
            }
        }

        /** So many zeros and nothing else. */
        void zero(int many) {
            if (many > cells.length) {
                cells = new int[Math.max(many, 2 * cells.length)];
            }
            count = Math.max(many, 0);
            Arrays.fill(cells, 0, count, 0);
        }

        void fill(int from, int to, int value) {
            if (from >= 0 && from <= to && to <= count) {
                Arrays.fill(cells, from, to, value);
            }
        }
    }

    /**
     * Every name as a number: first those with a meaning of their own, which stay, then those of
     * the text, which are forgotten before the next one is read.
     */
    private static final class Names {
        private static final int SLOTS = 512;
        private static final String FROM_0 = "zero ra sp gp tp t0 t1 t2 s0 s1 a0 a1 a2 a3 a4 a5 a6 a7 ";
        private static final String FROM_18 = "s2 s3 s4 s5 s6 s7 s8 s9 s10 s11 t3 t4 t5 t6 ";

        /** What a name is defined as, and the constant's value or the label's item. */
        final Row sorts = new Row();
        final Row values = new Row();
        /** One more than the statement's or the register's number, 0 for none. */
        final Row operations = new Row();
        final Row registers = new Row();
        /** Bits that the name's end puts into the statement's word. */
        final Row orders = new Row();
        final int dot;
        final int hi;
        final int lo;
        private final int[] heads = new int[SLOTS];
        private final Row older = new Row();
        private final Row slots = new Row();
        private final Row starts = new Row();
        private final Row pool = new Row();
        private final int kept;
        private int hash = 0;

        Names() {
            starts.add(0);
            for (int i = 0; i < Op.ALL.length; i++) {
                enterOperation(Op.ALL[i], i);
            }
            enterNumbered();
            enterRow(FROM_0, 0);
            enterRow(FROM_18, 18);
            enterRow("fp ", 8);
            dot = enter(".");
            hi = enter("hi");
            lo = enter("lo");
            kept = sorts.count;
        }

        void put(int c) {
            pool.add(c);
            hash = hash * 31 + c;
        }

        /** The number of the name whose characters have been put. */
        int finish() {
            int slot = (hash ^ hash >>> 9) & SLOTS - 1;
            hash = 0;
            int found = heads[slot] - 1;
            for (int n = sorts.count; n > 0 && found >= 0; n--) {
                if (isPut(found)) {
                    pool.cut(starts.get(sorts.count));
                    return found;
                }
                found = older.get(found) - 1;
            }
            older.add(heads[slot]);
            slots.add(slot);
            starts.add(pool.count);
            sorts.add(0);
            values.add(0);
            heads[slot] = sorts.count;
            return sorts.count - 1;
        }

        void forget() {
            for (int name = sorts.count - 1; name >= kept; name--) {
                int slot = slots.get(name);
                if (slot >= 0 && slot < heads.length) {
                    heads[slot] = older.get(name);
                }
            }
            older.cut(kept);
            slots.cut(kept);
            starts.cut(kept + 1);
            pool.cut(starts.get(kept));
            values.cut(kept);
            sorts.cut(kept);
            // A text may define a label that is called as a statement is.
            sorts.fill(0, kept, 0);
        }

        boolean isFree(int name) {
            return sorts.get(name) == 0 && registers.get(name) == 0;
        }

        void define(int name, int sort, int value) {
            sorts.set(name, sort);
            values.set(name, value);
        }

        int lengthOf(int name) {
            return name >= 0 && name < sorts.count ? starts.get(name + 1) - starts.get(name) : 0;
        }

        int letterOf(int name, int i) {
            return pool.get(starts.get(name) + i);
        }

        private boolean isPut(int name) {
            int begin = starts.get(sorts.count);
            int length = lengthOf(name);
            if (length != pool.count - begin) {
                return false;
            }
            for (int i = 0; i < length; i++) {
                if (letterOf(name, i) != pool.get(begin + i)) {
                    return false;
                }
            }
            return true;
        }

        private void putAll(String letters) {
            for (int i = 0; i < letters.length(); i++) {
                put(letters.charAt(i));
            }
        }

        private int enter(String letters) {
            putAll(letters);
            return finish();
        }

        private void enterOperation(Op op, int number) {
            enterVariant(op, "", number, 0);
            if (op.isAtomic()) {
                enterVariant(op, ".aq", number, 1 << 26);
                enterVariant(op, ".rl", number, 1 << 25);
                enterVariant(op, ".aqrl", number, 3 << 25);
            }
        }

        private void enterVariant(Op op, String ending, int number, int order) {
            putAll(op.spelling);
            putAll(ending);
            finish();
            operations.add(number + 1);
            orders.add(order);
            registers.add(0);
        }

        private void enterNumbered() {
            for (int i = 0; i < 32; i++) {
                put('x');
                if (i >= 10) {
                    put('0' + i / 10);
                }
                put('0' + i % 10);
                finishRegister(i);
            }
        }

        /** Registers from a number on, each name with a blank behind it. */
        private void enterRow(String row, int first) {
            int number = first;
            for (int i = 0; i < row.length(); i++) {
                int c = row.charAt(i);
                if (c == ' ') {
                    finishRegister(number);
                    number++;
                } else {
                    put(c);
                }
            }
        }

        private void finishRegister(int number) {
            finish();
            operations.add(0);
            orders.add(0);
            registers.add(number + 1);
        }
    }

    /**
     * The statements. A shape says the operands; the word is what stands in the bytes beside them.
     * Registers: d a b as the document has them; in the short ones n is a d that is not 0, l one
     * that is not 2, s a b, m one that is not 0, D and A are 8 .. 15 in bits 2 and 7.
     * Numbers: i and o of loads and stores, h of shifts, u the upper 20 bits; short N, U (not 0),
     * H, 4 and 6 (c.addi4spn, c.addi16sp), w, L and S (c.lw, c.lwsp, c.swsp).
     * Targets: j of jal, J and B of short jumps and branches, and those that get longer: x jumps,
     * t branches, z branches that may be short at first; of la it is @.
     */
    private enum Op {
        ADD("add", "d,a,b", 51, 0, 0), SUB("sub", "d,a,b", 51, 0, 32),
        SLL("sll", "d,a,b", 51, 1, 0), SLT("slt", "d,a,b", 51, 2, 0),
        SLTU("sltu", "d,a,b", 51, 3, 0), XOR("xor", "d,a,b", 51, 4, 0),
        SRL("srl", "d,a,b", 51, 5, 0), SRA("sra", "d,a,b", 51, 5, 32), OR("or", "d,a,b", 51, 6, 0),
        AND("and", "d,a,b", 51, 7, 0), MUL("mul", "d,a,b", 51, 0, 1),
        MULH("mulh", "d,a,b", 51, 1, 1), MULHSU("mulhsu", "d,a,b", 51, 2, 1),
        MULHU("mulhu", "d,a,b", 51, 3, 1), DIV("div", "d,a,b", 51, 4, 1),
        DIVU("divu", "d,a,b", 51, 5, 1), REM("rem", "d,a,b", 51, 6, 1),
        REMU("remu", "d,a,b", 51, 7, 1), ADDI("addi", "d,a,i", 19, 0, 0),
        SLTI("slti", "d,a,i", 19, 2, 0), SLTIU("sltiu", "d,a,i", 19, 3, 0),
        XORI("xori", "d,a,i", 19, 4, 0), ORI("ori", "d,a,i", 19, 6, 0),
        ANDI("andi", "d,a,i", 19, 7, 0), SLLI("slli", "d,a,h", 19, 1, 0),
        SRLI("srli", "d,a,h", 19, 5, 0), SRAI("srai", "d,a,h", 19, 5, 32),
        LB("lb", "d,i(a)", 3, 0, 0), LH("lh", "d,i(a)", 3, 1, 0), LW("lw", "d,i(a)", 3, 2, 0),
        LBU("lbu", "d,i(a)", 3, 4, 0), LHU("lhu", "d,i(a)", 3, 5, 0),
        JALR("jalr", JUMP_TO_REGISTER, 103), SB("sb", "b,o(a)", 35, 0, 0),
        SH("sh", "b,o(a)", 35, 1, 0), SW("sw", "b,o(a)", 35, 2, 0), LUI("lui", "d,u", 55),
        AUIPC("auipc", "d,u", 23), BEQ("beq", "a,b,t", 99, 0, 0), BNE("bne", "a,b,t", 99, 1, 0),
        BLT("blt", "a,b,t", 99, 4, 0), BGE("bge", "a,b,t", 99, 5, 0),
        BLTU("bltu", "a,b,t", 99, 6, 0), BGEU("bgeu", "a,b,t", 99, 7, 0),
        JAL("jal", JUMP_AND_LINK, 111), SC_W("sc.w", "d,b,(a)", 47, 2, 3 << 2),
        AMOSWAP_W("amoswap.w", "d,b,(a)", 47, 2, 1 << 2),
        AMOADD_W("amoadd.w", "d,b,(a)", 47, 2, 0 << 2),
        AMOXOR_W("amoxor.w", "d,b,(a)", 47, 2, 4 << 2),
        AMOAND_W("amoand.w", "d,b,(a)", 47, 2, 12 << 2),
        AMOOR_W("amoor.w", "d,b,(a)", 47, 2, 8 << 2),
        AMOMIN_W("amomin.w", "d,b,(a)", 47, 2, 16 << 2),
        AMOMAX_W("amomax.w", "d,b,(a)", 47, 2, 20 << 2),
        AMOMINU_W("amominu.w", "d,b,(a)", 47, 2, 24 << 2),
        AMOMAXU_W("amomaxu.w", "d,b,(a)", 47, 2, 28 << 2), LR_W("lr.w", "d,(a)", 47, 2, 2 << 2),
        RDCYCLE("rdcycle", "d", 115 | 2 << 12 | 3072 << 20),
        RDTIME("rdtime", "d", 115 | 2 << 12 | 3073 << 20),
        RDINSTRET("rdinstret", "d", 115 | 2 << 12 | 3074 << 20),
        RDCYCLEH("rdcycleh", "d", 115 | 2 << 12 | 3200 << 20),
        RDTIMEH("rdtimeh", "d", 115 | 2 << 12 | 3201 << 20),
        RDINSTRETH("rdinstreth", "d", 115 | 2 << 12 | 3202 << 20), FENCE("fence", "", 267386895),
        FENCE_I("fence.i", "", 4111), ECALL("ecall", "", 115), EBREAK("ebreak", "", 1048691),

        C_ADDI4SPN("c.addi4spn", "D,4", 0, 0), C_LW("c.lw", "D,w(A)", 0, 2),
        C_SW("c.sw", "D,w(A)", 0, 6), C_NOP("c.nop", "", 1), C_ADDI("c.addi", "d,N", 1, 0),
        C_JAL("c.jal", "J", 1, 1), C_J("c.j", "J", 1, 5), C_LI("c.li", "d,N", 1, 2),
        C_ADDI16SP("c.addi16sp", "6", 1 | 2 << 7, 3), C_LUI("c.lui", "l,U", 1, 3),
        C_SRLI("c.srli", "A,H", 1, 4), C_SRAI("c.srai", "A,H", 1 | 1 << 10, 4),
        C_ANDI("c.andi", "A,N", 1 | 2 << 10, 4), C_SUB("c.sub", "A,D", 1 | 3 << 10 | 0 << 5, 4),
        C_XOR("c.xor", "A,D", 1 | 3 << 10 | 1 << 5, 4),
        C_OR("c.or", "A,D", 1 | 3 << 10 | 2 << 5, 4),
        C_AND("c.and", "A,D", 1 | 3 << 10 | 3 << 5, 4), C_BEQZ("c.beqz", "A,B", 1, 6),
        C_BNEZ("c.bnez", "A,B", 1, 7), C_SLLI("c.slli", "d,H", 2, 0),
        C_LWSP("c.lwsp", "n,L", 2, 2), C_JR("c.jr", "n", 2, 4), C_MV("c.mv", "d,m", 2, 4),
        C_EBREAK("c.ebreak", "", 36866), C_JALR("c.jalr", "n", 2 | 1 << 12, 4),
        C_ADD("c.add", "d,m", 2 | 1 << 12, 4), C_SWSP("c.swsp", "s,S", 2, 6),

        NOP("nop", "", 19), MV("mv", "d,a", 19), NOT("not", "d,a", 19 | 4 << 12 | -1 << 20),
        NEG("neg", "d,b", 51, 0, 32), SEQZ("seqz", "d,a", 19 | 3 << 12 | 1 << 20),
        SNEZ("snez", "d,b", 51, 3, 0), SLTZ("sltz", "d,a", 51, 2, 0),
        SGTZ("sgtz", "d,b", 51, 2, 0), JR("jr", "a", 103), RET("ret", "", 103 | 1 << 15),
        CALL("call", "x", 111 | 1 << 7), J("j", "x", 111), TAIL("tail", "x", 111),
        BEQZ("beqz", "a,z", 99, 0, 0), BNEZ("bnez", "a,z", 99, 1, 0),
        BGEZ("bgez", "a,t", 99, 5, 0), BLTZ("bltz", "a,t", 99, 4, 0),
        BLEZ("blez", "b,t", 99, 5, 0), BGTZ("bgtz", "b,t", 99, 4, 0),
        BGT("bgt", "b,a,t", 99, 4, 0), BLE("ble", "b,a,t", 99, 5, 0),
        BGTU("bgtu", "b,a,t", 99, 6, 0), BLEU("bleu", "b,a,t", 99, 7, 0), LA("la", "d,@", 23),
        LI("li", LOAD_NUMBER, 0),

        D_TEXT(".text", TO_TEXT, 0), D_DATA(".data", TO_DATA, 0), D_EQU(".equ", EQUATE, 0),
        D_BYTE(".byte", NUMBERS, 1), D_HALF(".half", NUMBERS, 2), D_WORD(".word", NUMBERS, 4),
        D_ASCII(".ascii", STRINGS, 0), D_ASCIZ(".asciz", STRINGS, 1), D_SPACE(".space", SPACE, 0),
        D_ALIGN(".align", ALIGN, 0);

        private static final Op[] ALL = values();

        final String spelling;
        final int role;
        final String shape;
        final int word;

        Op(String spelling, String shape, int word) {
            this.spelling = spelling;
            this.role = BY_SHAPE;
            this.shape = shape;
            this.word = word;
        }

        Op(String spelling, String shape, int low, int f, int g) {
            this(spelling, shape, low | f << 12 | g << 25);
        }

        /** A short one. */
        Op(String spelling, String shape, int q, int f) {
            this(spelling, shape, q | f << 13);
        }

        Op(String spelling, int role, int word) {
            this.spelling = spelling;
            this.role = role;
            this.shape = "";
            this.word = word;
        }

        boolean isAtomic() {
            return role == BY_SHAPE && (word & 127) == 47;
        }
    }

    /** The tokens of the text, every line with an END behind it, and where the reader is. */
    private static final class Tokens {
        /** How many ENDs there are. */
        int lines = 0;
        private int count = 0;
        private int at = 0;
        private int[] kinds = new int[64];
        private int[] values = new int[64];
        private int[] lengths = new int[64];

        void empty() {
            lines = 0;
            count = 0;
            at = 0;
        }

        void add(int kind, int value, int length) {
            if (count >= kinds.length || count >= values.length || count >= lengths.length) {
                int room = 2 * count + 64;
                kinds = Arrays.copyOf(kinds, room);
                values = Arrays.copyOf(values, room);
                lengths = Arrays.copyOf(lengths, room);
            }
            kinds[count] = kind;
            values[count] = value;
            lengths[count] = length;
            count++;
            if (kind == END) {
                lines++;
            }
        }

        int left() {
            return count - at;
        }

        void skip(int many) {
            at = Math.min(at + many, count);
        }

        /** The kind of the token that is so many behind the reader's. */
        int kind(int behind) {
            int i = at + behind;
            return i >= 0 && i < count && i < kinds.length ? kinds[i] : END;
        }

        int value(int behind) {
            int i = at + behind;
            return i >= 0 && i < count && i < values.length ? values[i] : 0;
        }

        int length() {
            return at >= 0 && at < count && at < lengths.length ? lengths[at] : 0;
        }
    }

    /**
     * Cuts the text into tokens. What can be none becomes BAD, and nothing behind it is read: it
     * is a fault at the latest when the line is read up to there.
     */
    private static final class Lexer {
        private final Row text;
        private final Names names;
        private final Tokens tokens;
        private final Row letters;
        private int at = 0;

        Lexer(Row text, Names names, Tokens tokens, Row letters) {
            this.text = text;
            this.names = names;
            this.tokens = tokens;
            this.letters = letters;
        }

        void readAll() {
            tokens.empty();
            letters.cut(0);
            at = 0;
            boolean good = true;
            for (int n = text.count; n > 0 && good && at < text.count; n--) {
                good = readToken();
            }
            if (!good) {
                tokens.add(BAD, 0, 0);
            }
            tokens.add(END, 0, 0);
        }

        private boolean readToken() {
            int c = text.get(at);
            if (c == ' ' || c == '\t') {
                at++;
                return true;
            }
            if (c == '#') {
                skipRemark();
                return true;
            }
            if (isDigit(c)) {
                return readNumber();
            }
            if (isOfName(c)) {
                return readName();
            }
            if (c == '\'') {
                return readQuoted();
            }
            return c == '"' ? readString() : readSign(c);
        }

        private void skipRemark() {
            int end = text.count;
            for (int n = end; n > 0 && at < end && text.get(at) != '\n'; n--) {
                at++;
            }
        }

        private boolean readName() {
            int begin = at;
            int end = text.count;
            for (int n = end; n > 0 && at < end && isOfName(text.get(at)); n--) {
                at++;
            }
            if (at - begin > LONGEST_NAME) {
                return false;
            }
            for (int i = begin; i < at; i++) {
                names.put(text.get(i));
            }
            tokens.add(NAME, names.finish(), 0);
            return true;
        }

        private boolean readNumber() {
            int second = text.get(at + 1);
            if (text.get(at) == '0' && second == 'x') {
                return readDigits(16, at + 2);
            }
            // 0b alone is the near label 0.
            if (text.get(at) == '0' && second == 'b' && isOfName(text.get(at + 2))) {
                return readDigits(2, at + 2);
            }
            if (second == 'f' || second == 'b') {
                return readNear(second);
            }
            return readDigits(10, at);
        }

        private boolean readNear(int direction) {
            if (isOfName(text.get(at + 2))) {
                return false;
            }
            tokens.add(NEAR, 2 * (text.get(at) - '0') + (direction == 'f' ? 1 : 0), 0);
            at += 2;
            return true;
        }

        private boolean readDigits(int base, int begin) {
            long value = 0;
            at = begin;
            int end = text.count;
            for (int n = end; n > 0 && at < end && digit(text.get(at)) < base; n--) {
                // Once it is too great it stays so, and the long never overflows.
                value = Math.min(value * base + digit(text.get(at)), 1L << 32);
                at++;
            }
            if (at == begin || value >= 1L << 32 || isOfName(text.get(at))) {
                return false;
            }
            tokens.add(base == 10 && at - begin == 1 ? DIGIT : NUMBER, (int) value, 0);
            return true;
        }

        private boolean readQuoted() {
            at++;
            int value = readCharacter('\'');
            if (value < 0 || text.get(at) != '\'' || isOfName(text.get(at + 1))) {
                return false;
            }
            at++;
            tokens.add(NUMBER, value, 0);
            return true;
        }

        private boolean readString() {
            int begin = letters.count;
            at++;
            for (int n = text.count; n > 0 && at < text.count && text.get(at) != '"'; n--) {
                int value = readCharacter('"');
                if (value < 0) {
                    return false;
                }
                letters.add(value);
            }
            if (text.get(at) != '"') {
                return false;
            }
            at++;
            tokens.add(STRING, begin, letters.count - begin);
            // The 0 that .asciz wants behind it.
            letters.add(0);
            return true;
        }

        /** What stands at the reader's place for a character between two quotes, or -1. */
        private int readCharacter(int quote) {
            int c = text.get(at);
            at++;
            if (c == quote || c == '\n' || c == 0) {
                return -1;
            }
            if (c != '\\') {
                return c;
            }
            int sign = text.get(at);
            at++;
            switch (sign) {
                case 'n':
                    return 10;
                case 't':
                    return 9;
                case '0':
                    return 0;
                case '\\':
                case '\'':
                case '"':
                    return sign;
                default:
                    return -1;
            }
        }

        private boolean readSign(int c) {
            switch (c) {
                case '\n':
                    tokens.add(END, 0, 0);
                    at++;
                    return true;
                case ':':
                case ',':
                case '(':
                case ')':
                case '+':
                case '-':
                case '*':
                case '/':
                case '%':
                case '&':
                case '|':
                case '^':
                case '~':
                    tokens.add(c, 0, 0);
                    at++;
                    return true;
                case '<':
                case '>':
                    if (text.get(at + 1) != c) {
                        return false;
                    }
                    tokens.add(c, 0, 0);
                    at += 2;
                    return true;
                default:
                    return false;
            }
        }

        private static boolean isDigit(int c) {
            return c >= '0' && c <= '9';
        }

        private static boolean isOfName(int c) {
            return isDigit(c) || c >= 'a' && c <= 'z' || c >= 'A' && c <= 'Z'
                    || c == '_' || c == '.' || c == '$';
        }

        /** The digit's value, or one that no base has. */
        private static int digit(int c) {
            if (isDigit(c)) {
                return c - '0';
            }
            if (c >= 'a' && c <= 'f') {
                return c - 'a' + 10;
            }
            return c >= 'A' && c <= 'F' ? c - 'A' + 10 : 99;
        }
    }

    /** A label, an instruction, or some bytes that stand together. */
    private static final class Item {
        int lineNumber = 0;
        boolean inData = false;
        /** The mark of its expression, or what else it is. */
        int mark = ALONE;
        /** Its bits; of a label its name's number, of a near one the next one's item. */
        int word = 0;
        int length = 0;
        /** Where it is in its section. */
        int offset = 0;
        /** The first item of its statement. */
        int head = 0;
        /** The steps of its expression. */
        int from = 0;
        int to = 0;
    }

    /** All items in the order of the text; they are made once and used again. */
    private static final class Program {
        final Row labels = new Row();
        int constants = 0;
        int count = 0;
        int textEnd = 0;
        int dataBegin = 0;
        /** What the next items get. */
        int lineNumber = 0;
        boolean inData = false;
        int head = 0;
        private int dataLength = 0;
        private final ArrayList<Item> items = new ArrayList<>();
        private final Item none = new Item();
        private final int[] nearest = new int[10];

        void empty() {
            labels.cut(0);
            constants = 0;
            count = 0;
            lineNumber = 0;
            inData = false;
            head = 0;
            // In front of the text stands one of each near label, from which 1f finds the first.
            for (int i = 0; i < nearest.length; i++) {
                nearest[i] = count;
                add(PLACE, -1, 0);
            }
        }

        Item add(int mark, int word, int length) {
            if (count >= items.size()) {
                items.add(new Item());
            }
            Item item = items.get(count);
            count++;
            item.lineNumber = lineNumber;
            item.inData = inData;
            item.mark = mark;
            item.word = word;
            item.length = length;
            item.offset = 0;
            item.head = head;
            item.from = 0;
            item.to = 0;
            return item;
        }

        Item find(int index) {
            return index >= 0 && index < count && index < items.size() ? items.get(index) : none;
        }

        void addNear(int digit) {
            if (digit >= 0 && digit < nearest.length) {
                find(nearest[digit]).word = count;
                nearest[digit] = count;
                add(PLACE, -1, 0);
            }
        }

        /** The latest near label of a digit; below 10 it is the one in front of the text. */
        int latest(int digit) {
            return digit >= 0 && digit < nearest.length ? nearest[digit] : 0;
        }

        boolean isInText(int index) {
            return index >= nearest.length;
        }

        int addressOf(int index) {
            if (index < 0 || index >= count || index >= items.size()) {
                return 0;
            }
            Item item = items.get(index);
            return item.inData ? dataBegin + item.offset : item.offset;
        }

        int end() {
            return dataLength > 0 ? dataBegin + dataLength : textEnd;
        }

        /** Finds all addresses from the lengths. */
        void place() {
            textEnd = 0;
            dataLength = 0;
            for (int i = 0; i < count; i++) {
                Item item = find(i);
                item.offset = item.inData ? dataLength : textEnd;
                if (item.mark == PADDING) {
                    // The data begins at a multiple of all these, so its offset will do.
                    item.length = -item.offset & (1 << item.word) - 1;
                }
                if (item.inData) {
                    dataLength += item.length;
                } else {
                    textEnd += item.length;
                }
            }
            dataBegin = (textEnd + DATA_STEP - 1) / DATA_STEP * DATA_STEP;
        }
    }

    /** Expressions, kept as steps for a stack. */
    private static final class Formulas {
        /** Whether the one that was compiled last is fixed. */
        boolean fixed = true;
        /** What the one that was evaluated last comes to. */
        int result = 0;
        private final Names names;
        private final Tokens tokens;
        private final Program program;
        private final Row kinds = new Row();
        private final Row values = new Row();
        private final Row signs = new Row();
        private final Row stack = new Row();
        private boolean wanted = true;
        private int open = 0;
        private boolean unknown = false;
        private boolean divided = false;

        Formulas(Names names, Tokens tokens, Program program) {
            this.names = names;
            this.tokens = tokens;
            this.program = program;
        }

        void empty() {
            dropFrom(0);
        }

        int end() {
            return kinds.count;
        }

        void dropFrom(int step) {
            kinds.cut(step);
            values.cut(step);
        }

        /** Reads an expression up to the token that it can't have; false if it is none. */
        boolean compile() {
            fixed = true;
            wanted = true;
            open = 0;
            signs.cut(0);
            boolean more = true;
            for (int n = tokens.left(); n > 0 && more; n--) {
                int kind = tokens.kind(0);
                if (wanted) {
                    if (!(kind == '%' ? takePart() : takeOperand(kind))) {
                        return false;
                    }
                } else if (kind == ')' && open > 0) {
                    settleSigns(1);
                    signs.cut(signs.count - 1);
                    open--;
                } else if (level(kind) > 0) {
                    settleSigns(level(kind));
                    signs.add(kind);
                    wanted = true;
                } else {
                    more = false;
                }
                if (more) {
                    tokens.skip(1);
                }
            }
            settleSigns(1);
            return !wanted && open == 0;
        }

        /** An operand, or what stands before it. */
        private boolean takeOperand(int kind) {
            int step = kind;
            int value = tokens.value(0);
            switch (kind) {
                case NUMBER:
                case DIGIT:
                    step = NUMBER;
                    break;
                case NAME:
                    step = value == names.dot ? HERE : NAME;
                    fixed = fixed && step == NAME && names.sorts.get(value) == CONSTANT;
                    break;
                case NEAR:
                    step = (value & 1) == 1 ? LABEL_AHEAD : LABEL_BACK;
                    value = program.latest(value >> 1);
                    fixed = false;
                    break;
                case '-':
                    signs.add(NEGATE);
                    return true;
                case '~':
                    signs.add(INVERT);
                    return true;
                case '(':
                    signs.add(kind);
                    open++;
                    return true;
                default:
                    return false;
            }
            kinds.add(step);
            values.add(value);
            wanted = false;
            return true;
        }

        /** %hi or %lo with its bracket; the caller skips one of the three tokens. */
        private boolean takePart() {
            int name = tokens.kind(1) == NAME ? tokens.value(1) : -1;
            if (name != names.hi && name != names.lo || tokens.kind(2) != '(') {
                return false;
            }
            signs.add(name == names.hi ? HIGH_PART : LOW_PART);
            signs.add('(');
            open++;
            tokens.skip(2);
            return true;
        }

        /** The waiting signs down to a level, or to a bracket, become steps. */
        private void settleSigns(int least) {
            for (int n = signs.count; n > 0; n--) {
                int sign = signs.get(n - 1);
                if (level(sign) < least) {
                    return;
                }
                kinds.add(sign);
                values.add(0);
                signs.cut(n - 1);
            }
        }

        /** How early a sign is done; 0 for what is no sign of an expression. */
        private static int level(int sign) {
            switch (sign) {
                case NEGATE:
                case INVERT:
                case HIGH_PART:
                case LOW_PART:
                    return 7;
                case '*':
                case '/':
                case '%':
                    return 6;
                case '+':
                case '-':
                    return 5;
                case '<':
                case '>':
                    return 4;
                case '&':
                    return 3;
                case '^':
                    return 2;
                case '|':
                    return 1;
                default:
                    return 0;
            }
        }

        /** The fault of an expression of the statement with this first item, or 0. */
        int evaluate(int from, int to, int head) {
            stack.cut(0);
            unknown = false;
            divided = false;
            for (int i = from; i < to; i++) {
                int kind = kinds.get(i);
                int value = values.get(i);
                if (kind == NUMBER) {
                    stack.add(value);
                } else if (kind == NAME) {
                    stack.add(valueOf(value));
                } else if (kind == HERE) {
                    stack.add(program.addressOf(head));
                } else if (kind == LABEL_BACK || kind == LABEL_AHEAD) {
                    stack.add(nearAddress(kind, value));
                } else if (level(kind) == 7) {
                    int top = stack.count - 1;
                    stack.set(top, changed(kind, stack.get(top)));
                } else {
                    int top = stack.count - 1;
                    int joined = joined(kind, stack.get(top - 1), stack.get(top));
                    stack.cut(top);
                    stack.set(top - 1, joined);
                }
            }
            result = stack.get(0);
            return unknown ? UNKNOWN_NAME : divided ? ZERO_DIVISOR : 0;
        }

        private int valueOf(int name) {
            int sort = names.sorts.get(name);
            int value = names.values.get(name);
            if (sort == LABEL) {
                return program.addressOf(value);
            }
            unknown = unknown || sort != CONSTANT;
            return value;
        }

        private int nearAddress(int kind, int latest) {
            int index = kind == LABEL_AHEAD ? program.find(latest).word : latest;
            unknown = unknown || !program.isInText(index);
            return program.addressOf(index);
        }

        private static int changed(int sign, int value) {
            switch (sign) {
                case NEGATE:
                    return -value;
                case HIGH_PART:
                    return value + 2048 >>> 12;
                case LOW_PART:
                    return value << 20 >> 20;
                default:
                    return ~value;
            }
        }

        private int joined(int sign, int left, int right) {
            switch (sign) {
                case '*':
                    return left * right;
                case '/':
                case '%':
                    if (right == 0) {
                        divided = true;
                        return 0;
                    }
                    return sign == '/' ? left / right : left % right;
                case '+':
                    return left + right;
                case '-':
                    return left - right;
                case '<':
                    return left << right;
                case '>':
                    return left >> right;
                case '&':
                    return left & right;
                case '^':
                    return left ^ right;
                default:
                    return left | right;
            }
        }
    }

    /** Reads the lines, one after the other, into items; its answers are faults, 0 for none. */
    private static final class Parser {
        private final Names names;
        private final Tokens tokens;
        private final Program program;
        private final Formulas formulas;

        Parser(Names names, Tokens tokens, Program program, Formulas formulas) {
            this.names = names;
            this.tokens = tokens;
            this.program = program;
            this.formulas = formulas;
        }

        int readLine(int number) {
            program.lineNumber = number;
            int fault = 0;
            for (int n = tokens.left(); n > 0 && fault == 0 && isLabel(); n--) {
                fault = readLabel();
            }
            if (fault == 0 && tokens.kind(0) != END) {
                fault = readStatement();
            }
            if (fault == 0 && tokens.kind(0) != END) {
                fault = WRONG_TOKEN;
            }
            tokens.skip(1);
            return fault;
        }

        private boolean isLabel() {
            return tokens.kind(0) != END && tokens.kind(1) == ':';
        }

        private int readLabel() {
            int kind = tokens.kind(0);
            int value = tokens.value(0);
            if (kind == DIGIT) {
                program.addNear(value);
            } else if (kind != NAME) {
                return WRONG_TOKEN;
            } else if (!names.isFree(value)) {
                return TAKEN_NAME;
            } else {
                names.define(value, LABEL, program.count);
                program.labels.add(program.count);
                program.add(PLACE, value, 0);
            }
            tokens.skip(2);
            return 0;
        }

        private int readStatement() {
            if (tokens.kind(0) != NAME) {
                return WRONG_TOKEN;
            }
            int name = tokens.value(0);
            int number = names.operations.get(name) - 1;
            if (number < 0 || number >= Op.ALL.length) {
                return UNKNOWN_STATEMENT;
            }
            Op op = Op.ALL[number];
            tokens.skip(1);
            program.head = program.count;
            switch (op.role) {
                case TO_TEXT:
                case TO_DATA:
                    program.inData = op.role == TO_DATA;
                    return 0;
                case EQUATE:
                    return readEquate();
                case NUMBERS:
                    return readNumbers(op.word);
                case STRINGS:
                    return readStrings(op.word);
                case SPACE:
                    return readSpace();
                case ALIGN:
                    return readAlign();
                case LOAD_NUMBER:
                    return readLoad();
                case JUMP_AND_LINK:
                    return isRegister() ? readShape("d,j", op.word)
                            : readShape("x", op.word | 1 << 7);
                case JUMP_TO_REGISTER:
                    return tokens.kind(1) == END ? readShape("a", op.word | 1 << 7)
                            : readShape("d,i(a)", op.word);
                default:
                    return readShape(op.shape, op.word | names.orders.get(name));
            }
        }

        private int readShape(String shape, int word) {
            int whole = word;
            int mark = ALONE;
            int from = formulas.end();
            for (int i = 0; i < shape.length(); i++) {
                int want = shape.charAt(i);
                if (want == ',' || want == '(' || want == ')') {
                    if (tokens.kind(0) != want) {
                        return WRONG_TOKEN;
                    }
                    tokens.skip(1);
                } else if (Fields.isRegister(want)) {
                    int bits = readRegister(want);
                    if (bits < 0) {
                        return -bits;
                    }
                    whole |= bits;
                } else {
                    if (!formulas.compile()) {
                        return WRONG_TOKEN;
                    }
                    mark = want;
                }
            }
            Item item = program.add(mark, whole, Fields.firstLength(mark, whole));
            item.from = from;
            item.to = formulas.end();
            return 0;
        }

        private boolean isRegister() {
            return tokens.kind(0) == NAME && names.registers.get(tokens.value(0)) > 0;
        }

        /** The bits of a register where a shape wants one, or a fault as a negative number. */
        private int readRegister(int mark) {
            int kind = tokens.kind(0);
            if (kind == END || kind == BAD) {
                return -WRONG_TOKEN;
            }
            int bits = isRegister()
                    ? Fields.registerBits(mark, names.registers.get(tokens.value(0)) - 1) : -1;
            if (bits < 0) {
                return -WRONG_REGISTER;
            }
            tokens.skip(1);
            return bits;
        }

        /** An expression that must be fixed and in a range; formulas.result is what it is. */
        private int readFixed(int low, int high) {
            int from = formulas.end();
            if (!formulas.compile()) {
                return WRONG_TOKEN;
            }
            if (!formulas.fixed) {
                return NOT_FIXED;
            }
            int fault = formulas.evaluate(from, formulas.end(), program.head);
            formulas.dropFrom(from);
            if (fault == 0 && (formulas.result < low || formulas.result > high)) {
                return WRONG_FIXED;
            }
            return fault;
        }

        private int readEquate() {
            if (tokens.kind(0) != NAME) {
                return WRONG_TOKEN;
            }
            int name = tokens.value(0);
            if (!names.isFree(name)) {
                return TAKEN_NAME;
            }
            if (tokens.kind(1) != ',') {
                return WRONG_TOKEN;
            }
            tokens.skip(2);
            int fault = readFixed(LOWEST, HIGHEST);
            if (fault == 0) {
                names.define(name, CONSTANT, formulas.result);
                program.constants++;
            }
            return fault;
        }

        private int readNumbers(int bytes) {
            boolean more = true;
            for (int n = tokens.left(); n > 0 && more; n--) {
                int from = formulas.end();
                if (!formulas.compile()) {
                    return WRONG_TOKEN;
                }
                Item item = program.add('=', 0, bytes);
                item.from = from;
                item.to = formulas.end();
                more = tokens.kind(0) == ',';
                if (more) {
                    tokens.skip(1);
                }
            }
            return 0;
        }

        private int readStrings(int zeros) {
            boolean more = true;
            for (int n = tokens.left(); n > 0 && more; n--) {
                if (tokens.kind(0) != STRING) {
                    return WRONG_TOKEN;
                }
                program.add(LETTERS, tokens.value(0), tokens.length() + zeros);
                tokens.skip(1);
                more = tokens.kind(0) == ',';
                if (more) {
                    tokens.skip(1);
                }
            }
            return 0;
        }

        private int readSpace() {
            int fault = readFixed(0, HIGHEST_END);
            if (fault == 0) {
                program.add(ZEROS, 0, formulas.result);
            }
            return fault;
        }

        private int readAlign() {
            int fault = readFixed(0, 10);
            if (fault == 0) {
                program.add(PADDING, formulas.result, 0);
            }
            return fault;
        }

        private int readLoad() {
            int bits = readRegister('d');
            if (bits < 0) {
                return -bits;
            }
            if (tokens.kind(0) != ',') {
                return WRONG_TOKEN;
            }
            tokens.skip(1);
            int fault = readFixed(LOWEST, HIGHEST);
            if (fault == 0) {
                addLoad(bits, formulas.result);
            }
            return fault;
        }

        /** The shortest instructions that put a value into the register of these bits. */
        private void addLoad(int bits, int value) {
            int low = value << 20;
            if (Fields.fits('N', value) && bits != 0) {
                program.add(ALONE, 1 | 2 << 13 | bits | Fields.scatter('N', value), 2);
            } else if (Fields.fits('i', value)) {
                program.add(ALONE, 19 | bits | low, 4);
            } else {
                program.add(ALONE, 55 | bits | value + 2048 >>> 12 << 12, 4);
                if (low != 0) {
                    program.add(ALONE, 19 | bits | bits << 8 | low, 4);
                }
            }
        }
    }

    /** Where registers and numbers stand in an instruction, by the marks of the shapes. */
    private static final class Fields {
        private static final String REGISTER_MARKS = "dabsnlmDA";

        private Fields() {
        }

        static boolean isRegister(int mark) {
            return REGISTER_MARKS.indexOf((char) mark) >= 0;
        }

        /** The bits of a register, or -1 if it can't stand there. */
        static int registerBits(int mark, int number) {
            boolean isShort = number >= 8 && number <= 15;
            switch (mark) {
                case 'd':
                    return number << 7;
                case 'a':
                    return number << 15;
                case 'b':
                    return number << 20;
                case 's':
                    return number << 2;
                case 'n':
                    return number == 0 ? -1 : number << 7;
                case 'l':
                    return number == 2 ? -1 : number << 7;
                case 'm':
                    return number == 0 ? -1 : number << 2;
                case 'D':
                    return isShort ? number - 8 << 2 : -1;
                case 'A':
                    return isShort ? number - 8 << 7 : -1;
                default:
                    return -1;
            }
        }

        /** How many bytes an instruction has before any gets longer. */
        static int firstLength(int mark, int word) {
            switch (mark) {
                case 'x':
                    return 2;
                case 'z':
                    return (word >> 15 & 24) == 8 ? 2 : 4;
                case '@':
                    return 8;
                default:
                    return (word & 3) == 3 ? 4 : 2;
            }
        }

        /** How many bytes an instruction may come to have. */
        static int lastLength(int mark) {
            return mark == 'x' ? 4 : mark == 'z' || mark == 't' ? 8 : 0;
        }

        /** The mark that tells how an offset stands in a jump or branch of a length. */
        static int markFor(int mark, int length) {
            switch (mark) {
                case 'x':
                    return length == 2 ? 'J' : 'j';
                case 'z':
                case 't':
                    return length == 2 ? 'B' : length == 4 ? 't' : 'j';
                default:
                    return mark;
            }
        }

        static boolean fits(int mark, int value) {
            switch (mark) {
                case 'i':
                case 'o':
                    return isWithin(value, -2048, 2047, 1);
                case 'h':
                case 'H':
                    return isWithin(value, 0, 31, 1);
                case 'u':
                    return isWithin(value, 0, 1048575, 1);
                case 't':
                    return isWithin(value, -4096, 4094, 2);
                case 'j':
                    return isWithin(value, -1048576, 1048574, 2);
                case 'J':
                    return isWithin(value, -2048, 2046, 2);
                case 'B':
                    return isWithin(value, -256, 254, 2);
                case 'N':
                    return isWithin(value, -32, 31, 1);
                case 'U':
                    return isWithin(value, -32, 31, 1) && value != 0;
                case '4':
                    return isWithin(value, 4, 1020, 4);
                case 'w':
                    return isWithin(value, 0, 124, 4);
                case '6':
                    return isWithin(value, -512, 496, 16) && value != 0;
                case 'L':
                case 'S':
                    return isWithin(value, 0, 252, 4);
                default:
                    return true;
            }
        }

        /** The bits of a number that fits, at their places in the word. */
        static int scatter(int mark, int v) {
            switch (mark) {
                case 'i':
                case 'h':
                    return v << 20;
                case 'o':
                    return pick(v, 5, 7, 25) | pick(v, 0, 5, 7);
                case 'u':
                    return v << 12;
                case 't':
                    return pick(v, 12, 1, 31) | pick(v, 5, 6, 25) | pick(v, 1, 4, 8)
                            | pick(v, 11, 1, 7);
                case 'j':
                    return pick(v, 20, 1, 31) | pick(v, 1, 10, 21) | pick(v, 11, 1, 20)
                            | pick(v, 12, 8, 12);
                default:
                    return scatterShort(mark, v);
            }
        }

        private static int scatterShort(int mark, int v) {
            switch (mark) {
                case 'N':
                case 'U':
                    return pick(v, 5, 1, 12) | pick(v, 0, 5, 2);
                case 'H':
                    return v << 2;
                case '4':
                    return pick(v, 4, 2, 11) | pick(v, 6, 4, 7) | pick(v, 2, 1, 6)
                            | pick(v, 3, 1, 5);
                case 'w':
                    return pick(v, 3, 3, 10) | pick(v, 2, 1, 6) | pick(v, 6, 1, 5);
                case '6':
                    return pick(v, 9, 1, 12) | pick(v, 4, 1, 6) | pick(v, 6, 1, 5)
                            | pick(v, 7, 2, 3) | pick(v, 5, 1, 2);
                case 'L':
                    return pick(v, 5, 1, 12) | pick(v, 2, 3, 4) | pick(v, 6, 2, 2);
                case 'S':
                    return pick(v, 2, 4, 9) | pick(v, 6, 2, 7);
                case 'J':
                    return pick(v, 11, 1, 12) | pick(v, 4, 1, 11) | pick(v, 8, 2, 9)
                            | pick(v, 10, 1, 8) | pick(v, 6, 1, 7) | pick(v, 7, 1, 6)
                            | pick(v, 1, 3, 3) | pick(v, 5, 1, 2);
                case 'B':
                    return pick(v, 8, 1, 12) | pick(v, 3, 2, 10) | pick(v, 6, 2, 5)
                            | pick(v, 1, 2, 3) | pick(v, 5, 1, 2);
                default:
                    return v;
            }
        }

        private static boolean isWithin(int value, int low, int high, int step) {
            return value >= low && value <= high && (value & step - 1) == 0;
        }

        /** So many bits from one place on, put to another. */
        private static int pick(int v, int from, int many, int to) {
            return (v >> from & (1 << many) - 1) << to;
        }
    }

    /** Lays the items out and turns them into bytes. */
    private static final class Encoder {
        final Row image = new Row();
        final Row lines = new Row();
        int rounds = 0;
        private final Program program;
        private final Formulas formulas;
        private final Row letters;

        Encoder(Program program, Formulas formulas, Row letters) {
            this.program = program;
            this.formulas = formulas;
            this.letters = letters;
        }

        /** Finds all lengths and addresses. */
        void settle() {
            rounds = 0;
            program.place();
            // None gets longer more than twice, so there are no more rounds than that.
            int most = 2 * program.count;
            while (rounds <= most && lengthenAll()) {
                rounds++;
                program.place();
            }
        }

        private boolean lengthenAll() {
            boolean some = false;
            for (int i = 0; i < program.count; i++) {
                Item item = program.find(i);
                if (item.length < Fields.lastLength(item.mark) && isTooFar(i, item)) {
                    item.length *= 2;
                    some = true;
                }
            }
            return some;
        }

        private boolean isTooFar(int index, Item item) {
            if (formulas.evaluate(item.from, item.to, item.head) != 0) {
                return false;
            }
            int offset = formulas.result - program.addressOf(index);
            return !Fields.fits(Fields.markFor(item.mark, item.length), offset);
        }

        /** The first fault with its line, or 0 when all bytes stand in the image. */
        int encodeAll() {
            image.zero(program.end());
            lines.zero(program.end());
            for (int i = 0; i < program.count; i++) {
                Item item = program.find(i);
                int at = program.addressOf(i);
                lines.fill(at, at + item.length, item.lineNumber);
                int fault = encode(item, at);
                if (fault != 0) {
                    return fault + 16 * item.lineNumber;
                }
            }
            return 0;
        }

        private int encode(Item item, int at) {
            switch (item.mark) {
                case PLACE:
                case ZEROS:
                case PADDING:
                    return 0;
                case LETTERS:
                    for (int i = 0; i < item.length; i++) {
                        image.set(at + i, letters.get(item.word + i));
                    }
                    return 0;
                case ALONE:
                    put(at, item.word, item.length);
                    return 0;
                default:
                    return encodeExpression(item, at);
            }
        }

        private int encodeExpression(Item item, int at) {
            int fault = formulas.evaluate(item.from, item.to, item.head);
            if (fault != 0) {
                return fault;
            }
            int value = formulas.result;
            switch (item.mark) {
                case '=':
                    put(at, value, item.length);
                    return 0;
                case '@':
                    putAddress(item.word, value - at, at);
                    return 0;
                case 'x':
                case 'z':
                case 't':
                    return encodeJump(item, value - at, at);
                case 'j':
                case 'J':
                case 'B':
                    return encodeNumber(item, value - at, at);
                default:
                    return encodeNumber(item, value, at);
            }
        }

        private int encodeNumber(Item item, int value, int at) {
            if (!Fields.fits(item.mark, value)) {
                return OUT_OF_RANGE;
            }
            put(at, item.word | Fields.scatter(item.mark, value), item.length);
            return 0;
        }

        /** One whose length depends on its offset. */
        private int encodeJump(Item item, int offset, int at) {
            int mark = Fields.markFor(item.mark, item.length);
            int counted = item.length == 8 ? offset - 4 : offset;
            if (!Fields.fits(mark, counted)) {
                return OUT_OF_RANGE;
            }
            int bits = Fields.scatter(mark, counted);
            if (item.length == 8) {
                put(at, (item.word ^ 1 << 12) | Fields.scatter('t', 8), 4);
                put(at + 4, 111 | bits, 4);
            } else if (item.length == 4) {
                put(at, item.word | bits, 4);
            } else {
                put(at, shortWord(item) | bits, 2);
            }
            return 0;
        }

        /** c.jal, c.j, c.beqz or c.bnez for the word of the longer one. */
        private static int shortWord(Item item) {
            if (item.mark == 'x') {
                return (item.word >> 7 & 31) == 1 ? 1 | 1 << 13 : 1 | 5 << 13;
            }
            return 1 | (6 | item.word >> 12 & 1) << 13 | (item.word >> 15 & 7) << 7;
        }

        private void putAddress(int word, int offset, int at) {
            int d = word >> 7 & 31;
            put(at, word | offset + 2048 >>> 12 << 12, 4);
            put(at + 4, 19 | d << 7 | d << 15 | offset << 20, 4);
        }

        /** The lowest byte first. */
        private void put(int at, int word, int bytes) {
            for (int i = 0; i < bytes; i++) {
                image.set(at + i, word >> 8 * i & 255);
            }
        }
    }
}
