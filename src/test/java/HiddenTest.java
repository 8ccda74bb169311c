import java.util.ArrayList;
import java.util.List;
import java.util.Random;

/** hidden() held against miss() of the same ship with each one and two cleanings told to it. */
public final class HiddenTest {
    private static final int NEVER = Integer.MAX_VALUE;

    public static void main(String[] args) {
        int wrong = 0;
        int twos = 0;
        for (int seed = 0; seed < 8; seed++) {
            int price = new int[] {0, 40, 300, 1000, 500, 150, 700, 80}[seed];
            int best = missWith(seed);
            if (best == -1) best = NEVER;
            List<Integer> days = new ArrayList<>();
            for (int two = 0; two < 2; two++) {
                for (int a = 1; a < 120; a++) {
                    for (int b = a + 1; b <= (two == 1 ? 119 : a + 1); b++) {
                        int miss = two == 1 ? missWith(seed, a, b) : missWith(seed, a);
                        int all = miss < 0 ? NEVER : miss + price * (two + 1);
                        if (all < best) {
                            best = all;
                            days = two == 1 ? List.of(a, b) : List.of(a);
                        }
                    }
                }
            }
            ShipSkins x = scene(seed);
            int got = x.hidden(0, 119, price);
            List<Integer> hid = new ArrayList<>();
            for (int i = 0; x.hid(i) != ShipSkins.NONE; i++) hid.add(x.hid(i));
            twos += hid.size() == 2 ? 1 : 0;
            System.out.println("scene " + seed + ": " + got + " " + hid);
            if (got != (best == NEVER ? -1 : best) || best != NEVER && !hid.equals(days)) {
                wrong++;
                System.out.println("scene " + seed + ": " + got + " " + hid + ", due is " + best + " " + days);
            }
        }
        if (twos == 0) {
            wrong++;
            System.out.println("no scene hid two");
        }
        System.out.println(wrong == 0 ? "hidden cleanings are as due" : wrong + " scenes are not as due");
        if (wrong != 0) System.exit(1);
    }

    private static ShipSkins scene(int seed) {
        Random random = new Random(seed);
        ShipSkins x = new ShipSkins();
        x.ship(random.nextInt(100));
        for (int i = 0; i < 6; i++) x.leg(0, random.nextInt(120), random.nextInt(6), random.nextInt(31), 3, 4);
        for (int i = 0; i < 6; i++) x.table(0, i, random.nextInt(5) - 5, 5 + random.nextInt(80));
        for (int i = 0; i < 4; i++) x.table(1, i, -random.nextInt(20), random.nextInt(40));
        x.cleaned(0, 90, 100);
        for (int i = 0; i < 14; i++) {
            int low = random.nextInt(700);
            x.look(0, random.nextInt(120), low, low + random.nextInt(80), 1 + random.nextInt(10), 0);
        }
        return x;
    }

    /** The least miss with these cleanings told too; -1 if one was told already, for that is not allowed. */
    private static int missWith(int seed, int... days) {
        ShipSkins x = scene(seed);
        for (int day : days) {
            if (x.cleaned(0, day, 0) < 0) return -1;
        }
        return x.miss(0, 119);
    }
}
