import com.sun.management.ThreadMXBean;
import java.lang.management.ManagementFactory;

/** What a run takes of the one room that all its calls share: objects are made by new, rule and image alone. */
public final class RoomTest {
    private static final int CALLS = 512;
    private static final ThreadMXBean THREADS = (ThreadMXBean) ManagementFactory.getThreadMXBean();

    private static long taken() {
        return THREADS.getThreadAllocatedBytes(Thread.currentThread().getId());
    }

    private static SkySpire largest() {
        SkySpire x = new SkySpire();
        Texts.sky(x, "sky 6 60;pen 0 0;pen 7 1;pen 14 2;pen 21 3;pen 28 4" + ";wind 1 5;wind 2 6".repeat(6)
            + ";mark 1;mark 2;mark 8;mark 9;mark 15;mark 16;mark 22;mark 23");
        for (int i = 0; i < 6; i++) {
            Texts.rule(x, "write 1 if [day%7<" + i + " or ink*2<force] and not [mine=1 and next>3];write mark-here*pen");
        }
        x.force(3);
        return x;
    }

    private static int dearCall(SkySpire x, int i) {
        return switch (i % 18) {
            case 0 -> x.day();
            case 1 -> x.ahead(0, 100, 3);
            case 2 -> x.sign();
            case 3 -> x.clean();
            case 4 -> x.hold(60, 0);
            case 5 -> x.wrote(35, 60);
            case 6 -> x.came(0, 35, 60, 0);
            case 7 -> x.change(60, 0);
            case 8 -> x.game(0, 1, 4, 0);
            case 9 -> x.rests(0, 1, 20, 0);
            case 10 -> x.pence(9999, 0);
            case 11 -> x.read(60, 0);
            case 12 -> x.note(i % 61, 0, -1);
            case 13 -> x.ruled(0);
            case 14 -> x.look(60, 0);
            case 15 -> x.rains(10, 60, 50, 0);
            case 16 -> x.stay(i % 5);
            default -> x.undo() + x.sky() + x.image(0) + x.back(0);
        };
    }

    public static void main(String[] args) {
        SkySpire x = largest();
        x.image(0);
        for (int i = 0; i < 18; i++) {
            dearCall(x, i);
        }
        long sum = 0;
        long before = taken();
        for (int i = 0; i < CALLS; i++) {
            sum += dearCall(x, i);
        }
        long calls = taken() - before;
        before = taken();
        SkySpire y = new SkySpire();
        long made = taken() - before;
        before = taken();
        y.image(0);
        long image = taken() - before;
        System.out.println("RoomTest: " + CALLS + " calls take " + calls + " bytes, new takes " + made + ", image "
            + image + " (" + sum + ")");
        if (calls > 4096 || made > 40000 || image > 20000) {
            System.out.println("RoomTest: too much");
            System.exit(1);
        }
    }
}
