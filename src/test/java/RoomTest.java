import com.sun.management.ThreadMXBean;
import java.lang.management.ManagementFactory;
import java.util.Random;

/** Calls of any kind with any numbers: none throws, and none makes an object. */
final class RoomTest {
    private static final Check C = new Check("room");
    private static final int[] NUMBERS = {-1, 0, 0, 0, 1, 1, 1, 2, 2, 3, 3, 4, 5, 6, 7, 8, 9, 10, 11, 12, 15, 16, 27, 40, 41, 80, 81, 82,
        255, 256, 4095, 4096, Integer.MAX_VALUE, Integer.MIN_VALUE, Integer.MAX_VALUE - 3, -2};
    private static final String[] TEXTS = {"T", "a", "<0>Fa", "<01>I(a|!b)", "<>Gc", "<1>(aU<0>Xb)", "<023>Xa", "(<0>Fa&<1>Gb)", "<0>I<1>I<2>Ia", "!<3"};

    public static void main(String[] args) {
        int answers = 0;
        for (int seed = 0; seed < 800; seed++) {
            Random chance = new Random(seed);
            ForceNet x = new ForceNet();
            x.net(2 + chance.nextInt(11), 1 + chance.nextInt(4));
            for (int k = 0; k < 300; k++) {
                call(x, chance);
                answers++;
            }
        }
        C.due("all calls came back", answers, 800 * 300);
        room();
        C.end();
    }

    private static int any(Random chance) {
        return NUMBERS[chance.nextInt(chance.nextInt(4) == 0 ? NUMBERS.length : 12)];
    }

    private static void call(ForceNet x, Random chance) {
        int a = any(chance);
        int b = any(chance);
        int c = any(chance);
        int d = any(chance);
        int e = any(chance);
        switch (chance.nextInt(37)) {
            case 0 -> x.net(chance.nextInt(8) == 0 ? a : 12, chance.nextInt(8) == 0 ? b : 4);
            case 1, 2, 3 -> x.moves(a, b, 1 + chance.nextInt(3));
            case 4 -> x.joint(a, b);
            case 5, 6 -> x.step(a, chance.nextInt(82), chance.nextInt(13));
            case 7 -> x.leads(a, b);
            case 8 -> x.letters(a, chance.nextInt(8));
            case 9 -> x.heap(a, b, c);
            case 10 -> x.price(a, b, c, d);
            case 11 -> x.steps(a, b, c, d, e);
            case 12 -> x.type(chance.nextLong(), a);
            case 13, 14 -> Check.read(x, TEXTS[chance.nextInt(TEXTS.length)]);
            case 15 -> x.form();
            case 16 -> x.holds();
            case 17 -> x.part(a);
            case 18 -> x.force(a, b, c);
            case 19 -> x.round(a);
            case 20 -> x.plan(a);
            case 21 -> x.answer(a, b);
            case 22 -> x.toll(a);
            case 23 -> x.walk(a, b, c, d, e);
            case 24 -> x.walked(a);
            case 25 -> x.blind(a);
            case 26 -> x.blindMove(a, b, c);
            case 27 -> x.choose(a, b, c);
            case 28 -> x.lot(a);
            case 29 -> x.chance(a, b);
            case 30 -> x.goal(a, b);
            case 31 -> x.content(a);
            case 32 -> x.stable(a);
            case 33 -> x.settle(a);
            case 34 -> x.helpers(a);
            case 35 -> x.sheet(a, b, c);
            default -> others(x, chance, a, b, c, d, e);
        }
    }

    private static void others(ForceNet x, Random chance, int a, int b, int c, int d, int e) {
        switch (chance.nextInt(4)) {
            case 0 -> x.drop(a);
            case 1 -> x.item(a, b, c, d);
            case 2 -> x.copy(a, b, c, d, e);
            default -> x.count(a);
        }
    }

    private static void room() {
        ThreadMXBean bean = (ThreadMXBean) ManagementFactory.getThreadMXBean();
        long thread = Thread.currentThread().getId();
        bean.getThreadAllocatedBytes(thread);
        ForceNet x = new ForceNet();
        dear(x);
        long ahead = bean.getThreadAllocatedBytes(thread);
        long nothing = bean.getThreadAllocatedBytes(thread) - ahead;
        ahead = bean.getThreadAllocatedBytes(thread);
        dear(x);
        long made = bean.getThreadAllocatedBytes(thread) - ahead - nothing;
        C.due("bytes made by the dearest calls", made, 0);
        ahead = bean.getThreadAllocatedBytes(thread);
        new ForceNet();
        long size = bean.getThreadAllocatedBytes(thread) - ahead - nothing;
        C.due("a new object is small: " + size, size < 40000 ? 1 : 0, 1);
    }

    /** Every call that goes through much, on the largest net. */
    private static void dear(ForceNet x) {
        x.net(12, 4);
        for (int s = 0; s < 12; s++) {
            for (int p = 0; p < 4; p++) {
                x.moves(s, p, 1 + (s + p) % 3);
            }
            for (int j = 0; j < 81; j++) {
                x.step(s, j, (s * 5 + j) % 12);
            }
            x.letters(s, 1 << s % 3);
        }
        x.lot(2);
        x.sheet(0, 2, 81);
        for (int k = 0; k < 12; k++) {
            x.type(0x3C303E493C313E49L, 8);
            x.type(0x3C323E493C333E49L, 8);
            x.type(0x3C30313E463C323EL, 8);
            x.type(0x583C3E4721286126L, 8);
            x.type(0x6229L, 2);
            x.form();
            x.holds();
            x.round(k);
            x.plan(k);
            x.answer(k, 0);
            x.walk(k, 0, 2, 0, 40);
            x.helpers(k);
            x.blind(k);
            x.blindMove(k, 0, 0);
            x.type(0x3C303E4661L, 5);
            x.form();
            x.toll(k);
            x.blind(k);
            x.chance(k, 0);
            x.content(k);
            x.stable(k);
            x.settle(k);
            x.copy(0, 0, 0, 1, 80);
        }
    }
}
