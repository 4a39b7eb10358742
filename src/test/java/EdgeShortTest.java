/** The boundary cases of the short instructions, of two bytes. */
final class EdgeShortTest {
    private static final int MIN = Integer.MIN_VALUE;
    private static final int MAX = Integer.MAX_VALUE;

    public static void main(String[] args) {
        testShortRegisters();
        testRegistersNotSaid();
        testStackAddress();
        testLoads();
        testSmallNumbers();
        testJumps();
        testStackMove();
        testUpper();
        testShifts();
        testPairs();
        testBranches();
        testStackLoads();
        testMoves();
        testAlone();
        Check.end();
    }

    private static void refused(String form, int... numbers) {
        for (int number : numbers) {
            Check.fault("\n" + form.replace("E", "(" + number + ")"), 10, 2);
        }
    }

    /** The bits of a number from one place down to another, put to a third. */
    private static int bits(int value, int high, int low, int to) {
        return (value >> low & (1 << high - low + 1) - 1) << to;
    }

    private static void testShortRegisters() {
        Check.says("d', a', b' are registers 8 .. 15");
        String[] forms = {"c.addi4spn R, 4", "c.lw R, 0(s0)", "c.lw s0, 0(R)", "c.sw R, 0(s0)",
            "c.sw s0, 0(R)", "c.srli R, 1", "c.srai R, 1", "c.andi R, 1", "c.sub R, s0", "c.sub s0, R",
            "c.xor R, s0", "c.xor s0, R", "c.or R, s0", "c.or s0, R", "c.and R, s0", "c.and s0, R",
            "c.beqz R, .", "c.bnez R, ."};
        for (String form : forms) {
            for (int r = 0; r < 32; r++) {
                String text = form.replace("R", "x" + r);
                Check.fault(text, r >= 8 && r <= 15 ? 0 : 3, r >= 8 && r <= 15 ? 0 : 1);
            }
            Check.fault(form.replace("R", "8"), 3, 1);
        }
    }

    private static void testRegistersNotSaid() {
        Check.says("(d of the four and b not 0, but d of c.mv and c.add may be 0; so may d of all)");
        String[] any = {"c.addi R, 1", "c.li R, 1", "c.slli R, 1", "c.mv R, ra", "c.add R, ra", "c.swsp R, 0"};
        String[] not0 = {"c.lwsp R, 0", "c.jr R", "c.jalr R", "c.mv ra, R", "c.add ra, R"};
        for (int r = 0; r < 32; r++) {
            for (String form : any) {
                Check.good(form.replace("R", "x" + r));
            }
            for (String form : not0) {
                Check.fault(form.replace("R", "x" + r), r == 0 ? 3 : 0, r == 0 ? 1 : 0);
            }
            Check.fault("c.lui x" + r + ", 1", r == 2 ? 3 : 0, r == 2 ? 1 : 0);
        }
        // A register that can't be there is told before the number, and before the next register.
        Check.fault("c.lui sp, 0", 3, 1);
        Check.fault("c.lwsp zero, 1", 3, 1);
        Check.fault("c.mv 5, zero", 3, 1);
        Check.fault("c.lw a0, 1(t0)", 3, 1);
    }

    private static void testStackAddress() {
        Check.says("c.addi4spn d', e: F 0, a multiple of 4, 4 .. 1020");
        for (int e = 4; e <= 1020; e += 4) {
            Check.half("c.addi4spn a5, " + e,
                    7 << 2 | bits(e, 5, 4, 11) | bits(e, 9, 6, 7) | bits(e, 2, 2, 6) | bits(e, 3, 3, 5));
        }
        refused("c.addi4spn a0, E", 0, -4, 1, 2, 3, 5, 6, 1018, 1019, 1021, 1022, 1024, MIN, MAX - 3);
    }

    private static void testLoads() {
        Check.says("c.lw d', e(a'): F 2, c.sw b', e(a'): F 6, multiples of 4, 0 .. 124");
        for (int e = 0; e <= 124; e += 4) {
            int both = 7 << 2 | 2 << 7 | bits(e, 5, 3, 10) | bits(e, 2, 2, 6) | bits(e, 6, 6, 5);
            Check.half("c.lw a5, " + e + "(a0)", 2 << 13 | both);
            Check.half("c.sw a5, " + e + "(a0)", 6 << 13 | both);
        }
        refused("c.lw a0, E(a0)", -4, -1, 1, 2, 3, 122, 123, 125, 126, 128, MIN, MAX - 3);
        refused("c.sw a0, E(a0)", -4, -1, 1, 2, 3, 122, 123, 125, 126, 128, MIN, MAX - 3);
    }

    private static void testSmallNumbers() {
        Check.says("N: e -32 .. 31: bit 5 of it in 12, the others in 2 .. 6");
        for (int e = -32; e <= 31; e++) {
            int n = bits(e, 5, 5, 12) | bits(e, 4, 0, 2);
            Check.half("c.addi x31, " + e, 1 | 31 << 7 | n);
            Check.half("c.addi x0, " + e, 1 | n);
            Check.half("c.li x31, " + e, 1 | 2 << 13 | 31 << 7 | n);
            Check.half("c.andi a5, " + e, 1 | 4 << 13 | 2 << 10 | 7 << 7 | n);
        }
        for (String form : new String[] {"c.addi a0, E", "c.li a0, E", "c.andi a0, E", "c.lui a0, E"}) {
            refused(form, -33, 32, -64, 63, 64, MIN, MAX);
        }
    }

    private static void testJumps() {
        Check.says("c.jal t: F 1, c.j t: F 5: -2048 .. 2046, even");
        for (int t = -2048; t <= 2046; t += t < -2030 || t > 2020 || t > -20 && t < 20 ? 2 : 34) {
            int both = 1 | bits(t, 11, 11, 12) | bits(t, 4, 4, 11) | bits(t, 9, 8, 9) | bits(t, 10, 10, 8)
                    | bits(t, 6, 6, 7) | bits(t, 7, 7, 6) | bits(t, 3, 1, 3) | bits(t, 5, 5, 2);
            Check.half("c.jal . + " + t, 1 << 13 | both);
            Check.half("c.j . + " + t, 5 << 13 | both);
            Check.half("j . + " + t, 5 << 13 | both);
            Check.half("tail . + " + t, 5 << 13 | both);
            Check.half("call . + " + t, 1 << 13 | both);
            Check.half("jal . + " + t, 1 << 13 | both);
        }
        refused("c.j . + E", -2050, -2049, -2047, -1, 1, 2045, 2047, 2048, 4096, MIN, MAX - 1);
        refused("c.jal . + E", -2050, -2049, -2047, -1, 1, 2045, 2047, 2048, 4096, MIN, MAX - 1);
    }

    private static void testStackMove() {
        Check.says("c.addi16sp e: F 3, d 2, a multiple of 16, -512 .. 496, not 0");
        for (int e = -512; e <= 496; e += 16) {
            if (e != 0) {
                Check.half("c.addi16sp " + e, 1 | 3 << 13 | 2 << 7 | bits(e, 9, 9, 12) | bits(e, 4, 4, 6)
                        | bits(e, 6, 6, 5) | bits(e, 8, 7, 3) | bits(e, 5, 5, 2));
            }
        }
        refused("c.addi16sp E", 0, 1, 4, 8, 15, 17, -1, -8, -511, -513, -528, 495, 497, 504, 512, MIN, MAX - 15);
    }

    private static void testUpper() {
        Check.says("c.lui d, N: F 3, d not 2, e not 0");
        for (int e = -32; e <= 31; e++) {
            if (e != 0) {
                int n = bits(e, 5, 5, 12) | bits(e, 4, 0, 2);
                Check.half("c.lui x31, " + e, 1 | 3 << 13 | 31 << 7 | n);
                Check.half("c.lui x0, " + e, 1 | 3 << 13 | n);
            }
        }
        refused("c.lui a0, E", 0, -33, 32, 0xFFFFF, 0xFFFE0);
    }

    private static void testShifts() {
        Check.says("c.srli a', e, c.srai a', e (0 .. 31 in 6 .. 2); c.slli d, e: F 0, 0 .. 31 in 6 .. 2");
        for (int e = 0; e <= 31; e++) {
            Check.half("c.srli a5, " + e, 1 | 4 << 13 | 7 << 7 | e << 2);
            Check.half("c.srai a5, " + e, 1 | 4 << 13 | 1 << 10 | 7 << 7 | e << 2);
            Check.half("c.slli x31, " + e, 2 | 31 << 7 | e << 2);
        }
        for (String form : new String[] {"c.srli a0, E", "c.srai a0, E", "c.slli a0, E"}) {
            refused(form, -1, -32, 32, 33, 63, MIN, MAX);
        }
    }

    private static void testPairs() {
        Check.says("c.sub c.xor c.or c.and a', b': 3 there, and 0 .. 3 in 6, 5");
        String[] names = {"c.sub", "c.xor", "c.or", "c.and"};
        for (int i = 0; i < names.length; i++) {
            for (int a = 8; a <= 15; a++) {
                for (int b = 8; b <= 15; b++) {
                    Check.half(names[i] + " x" + a + ", x" + b,
                            1 | 4 << 13 | 3 << 10 | a - 8 << 7 | i << 5 | b - 8 << 2);
                }
            }
        }
    }

    private static void testBranches() {
        Check.says("c.beqz a', t: F 6, c.bnez a', t: F 7: -256 .. 254, even");
        for (int t = -256; t <= 254; t += 2) {
            int both = 1 | 5 << 7 | bits(t, 8, 8, 12) | bits(t, 4, 3, 10) | bits(t, 7, 6, 5)
                    | bits(t, 2, 1, 3) | bits(t, 5, 5, 2);
            Check.half("c.beqz x13, . + " + t, 6 << 13 | both);
            Check.half("c.bnez x13, . + " + t, 7 << 13 | both);
            Check.half("beqz x13, . + " + t, 6 << 13 | both);
            Check.half("bnez x13, . + " + t, 7 << 13 | both);
        }
        refused("c.beqz a0, . + E", -258, -257, -255, -1, 1, 253, 255, 256, 4096, MIN, MAX - 1);
        refused("c.bnez a0, . + E", -258, -257, -255, -1, 1, 253, 255, 256, 4096, MIN, MAX - 1);
    }

    private static void testStackLoads() {
        Check.says("c.lwsp d, e: F 2, d not 0, a multiple of 4, 0 .. 252; c.swsp b, e: F 6, as c.lwsp");
        for (int e = 0; e <= 252; e += 4) {
            Check.half("c.lwsp x31, " + e, 2 | 2 << 13 | 31 << 7 | bits(e, 5, 5, 12) | bits(e, 4, 2, 4)
                    | bits(e, 7, 6, 2));
            Check.half("c.swsp x31, " + e, 2 | 6 << 13 | 31 << 2 | bits(e, 5, 2, 9) | bits(e, 7, 6, 7));
        }
        refused("c.lwsp a0, E", -4, -1, 1, 2, 3, 250, 251, 253, 254, 256, MIN, MAX - 3);
        refused("c.swsp a0, E", -4, -1, 1, 2, 3, 250, 251, 253, 254, 256, MIN, MAX - 3);
    }

    private static void testMoves() {
        Check.says("c.jr d: F 4. c.mv d, b: F 4. c.jalr d: F 4, bit 12. c.add d, b: F 4, bit 12");
        for (int d = 0; d < 32; d++) {
            if (d > 0) {
                Check.half("c.jr x" + d, 2 | 4 << 13 | d << 7);
                Check.half("c.jalr x" + d, 2 | 4 << 13 | 1 << 12 | d << 7);
                Check.half("c.mv x" + (31 - d) + ", x" + d, 2 | 4 << 13 | 31 - d << 7 | d << 2);
                Check.half("c.add x" + (31 - d) + ", x" + d, 2 | 4 << 13 | 1 << 12 | 31 - d << 7 | d << 2);
            }
        }
    }

    private static void testAlone() {
        Check.says("c.nop: 1. c.ebreak 36866");
        Check.half("c.nop", 1);
        Check.half("c.ebreak", 36866);
        for (String more : new String[] {" 0", " a0", ",", " l"}) {
            Check.fault("c.nop" + more, 1, 1);
            Check.fault("c.ebreak" + more, 1, 1);
        }
        for (String early : new String[] {"c.addi4spn", "c.addi4spn a0", "c.addi4spn a0,", "c.lw a0",
            "c.lw a0, 0", "c.lw a0, 0(", "c.lw a0, 0(a0", "c.addi a0", "c.j", "c.jal", "c.li a0,",
            "c.addi16sp", "c.lui a0", "c.srli a0", "c.sub a0", "c.sub a0,", "c.beqz a0", "c.beqz a0,",
            "c.lwsp a0", "c.swsp a0,", "c.jr", "c.jalr", "c.mv a0", "c.add a0,"}) {
            Check.fault(early, 1, 1);
        }
    }
}
