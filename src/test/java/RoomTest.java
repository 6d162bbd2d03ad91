import com.sun.management.ThreadMXBean;
import java.lang.management.ManagementFactory;
import java.util.Random;

/**
 * All calls of a run live in one room of some 600,000 objects and arrays with 7.3 million fields and elements.
 * An object or array takes 16 bytes at least, an element of what the class makes 4: a run that takes no more than
 * MOST_BYTES in all has under 150,000 objects and under 600,000 elements.
 */
public final class RoomTest {
    private static final long MOST_BYTES = 2_400_000;
    private static final ThreadMXBean BEAN = (ThreadMXBean) ManagementFactory.getThreadMXBean();

    private static long used() {
        return BEAN.getThreadAllocatedBytes(Thread.currentThread().getId());
    }

    private static void feed(FarEditors x, String text) {
        for (int i = 0; i < text.length(); i += 20) {
            int[] n = new int[5];
            for (int j = 0; j < 20; j++) {
                n[j / 4] = n[j / 4] << 8 | (i + j < text.length() ? text.charAt(i + j) : ' ');
            }
            x.feed(n[0], n[1], n[2], n[3], n[4]);
        }
        x.end(text.length());
    }

    private static final String TEXT = "text abcdefghijklmnopqrstuvwxyzabcdefghijklmn editors 4;ties 2;";
    private static final String COMB = "1 +a 1 -1 ".repeat(10);

    /** Steps of many parts, all four editors with full stacks, and each call asks for what is dearest. */
    private static void runDearly(long seed) {
        Random draw = new Random(seed);
        FarEditors x = new FarEditors();
        feed(x, TEXT + "delay 0 3;delay 1 2;edit 0 " + COMB + ";edit 1 " + COMB + ";tick 2;edit 2 " + COMB + ";off 3;");
        if (x.session() != 9) {
            System.out.println("the session is refused");
            System.exit(1);
        }
        for (int i = 0; i < 480; i++) {
            int e = draw.nextInt(4);
            switch (draw.nextInt(12)) {
                case 0: feed(x, draw.nextInt(3) + 1 + " " + "+b 1 -1 2 ".repeat(3)); x.edit(e); break;
                case 1: x.chance(5); break;
                case 2: x.later(99, 0); break;
                case 3: x.quiet(); break;
                case 4: x.put(e, draw.nextInt(20), 1); x.orders(1); x.tells(0); break;
                case 5: x.ticks(1 + draw.nextInt(3)); break;
                case 6: x.undo(e); break;
                case 7: x.redo(e); break;
                case 8: x.back(); break;
                case 9: x.without(1, 0); x.was(x.has(1), 0); break;
                case 10: x.together(1, x.has(1), 0, 0); break;
                default: x.line(e, draw.nextBoolean());
            }
        }
    }

    public static void main(String[] args) {
        // the first runs make what the machine itself needs
        runDearly(1);
        new FarEditors();
        long before = used();
        new FarEditors();
        long made = used() - before;
        long most = 0;
        for (int seed = 1; seed <= 60; seed++) {
            before = used();
            runDearly(seed);
            most = Math.max(most, used() - before);
        }
        System.out.println("a new object takes " + made + " bytes, the dearest run " + most);
        if (most > MOST_BYTES || made > 200_000) {
            System.exit(1);
        }
    }
}
