import java.util.Random;

/** No call ever throws or fails to end, for any arguments in any state; also behind the 512th call. */
public final class WildTest {
    private static final int OBJECTS = 60;
    private static final int CALLS = 5000;
    private static final String LETTERS = "pvce0123456789;;;";
    private static final int[] ODD = {Integer.MIN_VALUE, Integer.MIN_VALUE + 1, Integer.MAX_VALUE, Integer.MAX_VALUE - 1,
        -4, -3, -2, -1, 7, 8, 9, 14, 15, 16, 31, 32, 33, 64, 127, 200, 255, 256, 512, 65536 + 'p'};
    private static final String[] TEXTS = {Due.ALL_FULL, Due.AT_FIRST, "p20;", "p87;", "p21;v07;v07;v07;e0190000;",
        "p21;v00;c100;c001;c002;c003;c004;c005;c006;c007;e0090201;e0107000;",
        "p32;v00;v00;v00;c017;c027;c007;c107;e0090201;e0000221;e0010222;e0193000;e1292000;",
        "p20;v00;v00;v00;v00;", "p20;v00;" + "c000;".repeat(9), "p20;" + "e0190000;".repeat(15),
        "p20;v00;" + "e0190000;".repeat(14) + "c000;".repeat(8) + "v00;v00;" + "e01900"};
    private static final Random ANY = new Random(20261118);

    /** Mostly what is told, at times odd, at times any number at all. */
    private static int number() {
        int way = ANY.nextInt(20);
        return way == 0 ? ANY.nextInt() : way == 1 ? ODD[ANY.nextInt(ODD.length)] : ANY.nextInt(16) - 2;
    }

    private static void tell(CubeChecker x) {
        x.wipe();
        for (char letter : TEXTS[ANY.nextInt(TEXTS.length)].toCharArray()) x.write(letter);
        if (ANY.nextInt(5) > 0) x.lay();
    }

    private static int told(CubeChecker x, int which) {
        switch (which) {
            case 0: return x.write(ANY.nextInt(3) == 0 ? number() : LETTERS.charAt(ANY.nextInt(LETTERS.length())));
            case 1: return ANY.nextInt(20) == 0 ? x.wipe() : x.fault();
            case 2: return x.lay();
            case 3: return x.edge(number(), number());
            case 4: return x.turn(number());
            case 5: return x.so(number(), number(), number(), number());
            case 6: return x.gone(number(), number(), number(), number());
            case 7: return x.real(number(), number());
            case 8: return x.run(number());
            default: return may(x, which);
        }
    }

    private static int may(CubeChecker x, int which) {
        switch (which) {
            case 9:
            case 10: return x.look(number(), number(), ANY.nextInt(4) > 0 ? 1 : number());
            case 11: return x.looked(number());
            case 12: return x.may(number(), number(), number());
            case 13: return x.state(number(), number());
            case 14: return x.found(number());
            case 15: return x.path(number());
            case 16: return x.mend();
            case 17: return x.check(number());
            case 18: return x.undo();
            default: return x.count(number());
        }
    }

    public static void main(String[] args) {
        int wrong = 0;
        for (int object = 0; object < OBJECTS; object++) {
            CubeChecker x = new CubeChecker();
            for (int i = 0; i < CALLS; i++) {
                int which = ANY.nextInt(20);
                try {
                    if (ANY.nextInt(300) == 0) tell(x);
                    if (told(x, which) < CubeChecker.NONE) throw new IllegalStateException("an answer below all that are told");
                } catch (RuntimeException thrown) {
                    wrong++;
                    if (wrong <= 5) System.out.println("object " + object + ", call " + i + " of kind " + which + ": " + thrown);
                }
            }
        }
        System.out.println(wrong == 0 ? "no call throws" : wrong + " calls throw");
        if (wrong != 0) System.exit(1);
    }
}
