import java.lang.management.ManagementFactory;
import java.util.function.IntFunction;

/** An object makes what it needs when it is made; the calls make no objects and no arrays. */
public final class RoomTest {
    private static final int CALLS = 512;

    public static void main(String[] args) {
        Due due = new Due();
        // threads told apart, so that nothing but the calls is counted; the first rounds warm the machine up
        for (int round = 0; round < 5; round++) {
            CoffeeThatSlops x = busyCup();
            long before = bytes();
            everyCall(x);
            long made = bytes() - before;
            if (round == 4) {
                due.is("bytes made by every call is below 4096", made < 4096, true);
            }
        }
        due.is("an object is small", sizeOf(i -> new CoffeeThatSlops()) < 400_000, true);
        due.is("exceptions aside, a whole run is small", sizeOf(i -> run()) < 1_000_000, true);
        due.end();
    }

    private static CoffeeThatSlops busyCup() {
        CoffeeThatSlops x = new CoffeeThatSlops();
        x.cup(20, 300, 250);
        x.set(5, 20);
        x.set(6, 0);
        Spell.law(x, 0, "p-s/2*(1+f)-(((t/9)))");
        for (int i = 0; i < 4; i++) {
            Spell.walk(x, i, "w" + i + ";g20,20,9*10");
            x.leads(i, 5 + i);
        }
        return x;
    }

    private static CoffeeThatSlops run() {
        CoffeeThatSlops x = busyCup();
        for (int i = 0; i < CALLS / 8; i++) {
            x.few(i % 4, i % 100);
        }
        return x;
    }

    private static void everyCall(CoffeeThatSlops x) {
        x.fresh();
        x.tilt(0, 9);
        x.tick(9, 9);
        x.cell(0, 1, 1);
        x.of(1, 2);
        x.set(1, 3);
        x.wall(3, 50);
        x.sheet(2, 3, 50, 9);
        x.sign(0x73390000);
        x.end(2);
        x.walk(3);
        x.sign(0x702D7300);
        x.end(3);
        x.law(1);
        x.gives(0, 20);
        x.steps(0);
        x.go(0, 0, 9);
        x.swing(50);
        x.dies(50, 5);
        x.worst(20);
        x.would(0, 7);
        x.odds(1, 9);
        x.full(0);
        x.plan(30);
        x.helps(0, 1);
        x.layers(0);
        x.off(30, 99, 3);
        x.few(0, 50);
        x.best(0, 7);
        x.lid(0, 5);
        x.form(15);
        x.turn(0, 20);
        x.door(0);
        x.two(0);
        x.stop(900);
        x.pause(0, 20);
        x.stir(0);
        x.spot(9);
        x.far(0, 1);
        x.who();
        x.wipe();
        x.film(1, 2, 3, 4);
        x.fits(0, 9);
        x.reads();
        x.seed(5);
        x.keep(1);
        x.again(1);
        x.count(4);
        x.row(0);
        x.cup(20, 300, 250);
    }

    private static long sizeOf(IntFunction<CoffeeThatSlops> make) {
        make.apply(0);
        long before = bytes();
        CoffeeThatSlops made = make.apply(1);
        long size = bytes() - before;
        return made == null ? -1 : size;
    }

    private static long bytes() {
        return ((com.sun.management.ThreadMXBean) ManagementFactory.getThreadMXBean())
            .getThreadAllocatedBytes(Thread.currentThread().getId());
    }
}
