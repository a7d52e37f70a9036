import java.lang.management.ManagementFactory;
import java.lang.reflect.Array;
import java.lang.reflect.Field;
import java.lang.reflect.Modifier;
import java.util.ArrayDeque;
import java.util.Collections;
import java.util.Deque;
import java.util.IdentityHashMap;
import java.util.Random;
import java.util.Set;

/** The room: an object is small, no call makes or keeps more, and the dearest runs of 512 calls end. */
public final class RoomTest {
    private static final int MOST_OBJECTS = 100;
    private static final int MOST_ELEMENTS = 10_000;
    private static int wrong = 0;

    private static void check(boolean is, String what) {
        if (!is) {
            wrong++;
            System.out.println(what);
        }
    }

    public static void main(String[] args) throws Exception {
        CellPictures x = new CellPictures();
        long[] atFirst = sizeOf(x);
        check(atFirst[0] <= MOST_OBJECTS, "a new object holds " + atFirst[0] + " objects");
        check(atFirst[1] <= MOST_ELEMENTS, "a new object holds " + atFirst[1] + " fields and elements");
        callAll(x, 1);
        long[] behind = sizeOf(x);
        check(behind[0] == atFirst[0] && behind[1] == atFirst[1], "an object grew to " + behind[0] + ", " + behind[1]);
        checkNothingIsMade();
        for (int colours = 1; colours <= 3; colours++) {
            for (int filled = 1; filled <= 9; filled++) {
                callDear(colours, filled);
            }
        }
        for (int run = 0; run < 2000; run++) {
            callWildly(new Random(run), new CellPictures());
        }
        System.out.println(atFirst[0] + " objects, " + atFirst[1] + " fields and elements: "
                + (wrong == 0 ? "the room is as due" : wrong + " things of the room are not as due"));
        if (wrong != 0) {
            System.exit(1);
        }
    }

    /** Only the first runs may make something: the machine's own, while it loads what it needs. */
    private static void checkNothingIsMade() {
        if (!(ManagementFactory.getThreadMXBean() instanceof com.sun.management.ThreadMXBean bean)
                || !bean.isThreadAllocatedMemorySupported()) {
            return;
        }
        CellPictures x = new CellPictures();
        long least = Long.MAX_VALUE;
        for (int i = 0; i < 20; i++) {
            long ahead = bean.getCurrentThreadAllocatedBytes();
            callAll(x, 1);
            least = Math.min(least, bean.getCurrentThreadAllocatedBytes() - ahead);
        }
        check(least < 1000, "a run of all calls makes " + least + " bytes");
    }

    private static void callAll(CellPictures x, int colours) {
        x.feed(0x31203120, 0x313B313B, 0x313B2020, 0x20202020, 0x20202020);
        x.end(10);
        x.load();
        x.fault();
        x.blank(12, 12, colours);
        for (int i = 0; i < 144; i++) {
            if (i * i % 7 < 3) {
                x.mark(i % 12, i / 12, 1);
            }
        }
        x.draw();
        x.about(7);
        x.run(0, 0, 0);
        x.give(0, 0, 1);
        x.given(0, 0);
        x.fresh();
        x.rule(3);
        x.ways(3);
        x.rest();
        x.tries();
        x.set(0, 0);
        x.search(50, 1000);
        x.nodes();
        x.solution(1, 0, 0);
        x.level();
        x.marked(0, 0);
        x.done();
        x.wrong();
        x.hint();
        x.mend();
    }

    private static void callDear(int colours, int filled) {
        Random chance = new Random(100L * colours + filled);
        CellPictures x = new CellPictures();
        x.blank(12, 12, colours);
        for (int i = 0; i < 144; i++) {
            if (chance.nextInt(10) < filled) {
                x.mark(i % 12, i / 12, 1 + chance.nextInt(colours));
            }
        }
        x.draw();
        for (int i = 0; i < 120; i++) {
            int found = x.search(50, 1000);
            check(found >= -2 && found <= 50 && found != 0, "search answered " + found);
            int level = x.level();
            check(level >= 0 && level <= 5 && level != 4, "level answered " + level);
            x.fresh();
            check(x.tries() >= 0, "tries of a picture's puzzle failed");
        }
        int told = x.mend();
        check(told >= -2 && told != -1 && told <= 144, "mend answered " + told);
        check(told == -2 || x.search(2, 400) == 1, "a mended puzzle has not one solution");
    }

    private static final int[] WILD = {Integer.MIN_VALUE, -1000, -3, -2, -1, 0, 1, 2, 3, 4, 5, 7, 11, 12, 13, 20, 23, 24,
        25, 50, 51, 143, 144, 900, 901, 1000, 1001, 0x31203120, 0x313B313B, 0x3B3B3B3B, Integer.MAX_VALUE};

    private static int wild(Random chance, int usual) {
        return chance.nextInt(4) > 0 ? chance.nextInt(usual + 1) : WILD[chance.nextInt(WILD.length)];
    }

    /** Any arguments in any state: what would be thrown ends this test. */
    private static void callWildly(Random chance, CellPictures x) {
        for (int i = 0; i < 200; i++) {
            int a = wild(chance, 12);
            int b = wild(chance, 12);
            int c = wild(chance, 3);
            switch (chance.nextInt(30)) {
                case 0: x.feed(a, WILD[chance.nextInt(WILD.length)], c, b, WILD[chance.nextInt(WILD.length)]); break;
                case 1: x.end(a); break;
                case 2: x.load(); break;
                case 3: x.fault(); break;
                case 4: x.blank(a, b, c); break;
                case 5: x.about(a); break;
                case 6: x.run(a, b, c); break;
                case 7: x.give(a, b, c); break;
                case 8: x.given(a, b); break;
                case 9: x.fresh(); break;
                case 10: x.rule(a); break;
                case 11: x.ways(a); break;
                case 12: x.rest(); break;
                case 13: x.tries(); break;
                case 14: x.set(a, b); break;
                case 15: x.search(a, b); break;
                case 16: x.nodes(); break;
                case 17: x.solution(c, a, b); break;
                case 18: x.level(); break;
                case 19: x.marked(a, b); break;
                case 20: x.done(); break;
                case 21: x.wrong(); break;
                case 22: x.hint(); break;
                case 23: x.draw(); break;
                case 24: x.mend(); break;
                default: x.mark(a, b, c); break;
            }
        }
    }

    /** How many objects and arrays, and how many fields and elements, are held. */
    private static long[] sizeOf(Object root) throws Exception {
        Set<Object> seen = Collections.newSetFromMap(new IdentityHashMap<>());
        Deque<Object> open = new ArrayDeque<>();
        open.add(root);
        seen.add(root);
        long elements = 0;
        while (!open.isEmpty()) {
            Object o = open.remove();
            if (o.getClass().isArray()) {
                elements += Array.getLength(o);
                continue;
            }
            for (Field f : o.getClass().getDeclaredFields()) {
                if (Modifier.isStatic(f.getModifiers())) {
                    continue;
                }
                elements++;
                f.setAccessible(true);
                Object part = f.getType().isPrimitive() ? null : f.get(o);
                if (part != null && seen.add(part)) {
                    open.add(part);
                }
            }
        }
        return new long[] {seen.size(), elements};
    }
}
