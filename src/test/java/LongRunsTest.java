/** Long runs of calls, made up by a fixed row of numbers, against SlowMesh. */
public final class LongRunsTest {

    private static final int RUNS = 1200;
    private static final int CALLS = 512;

    private static long seed;
    private static int nodes;
    private static int wavelengths;
    private static int style;

    private static int below(int bound) {
        seed = seed * 6364136223846793005L + 1442695040888963407L;
        return (int) ((seed >>> 33) % bound);
    }

    /** Mostly a number from 0 to one below the bound, now and then one beside it. */
    private static int about(int bound) {
        int pick = below(60);
        if (pick == 0) {
            return -1;
        }
        return pick == 1 || bound < 1 ? bound : below(bound);
    }

    public static void main(String[] args) {
        for (int run = 0; run < RUNS && Check.allRight(); run++) {
            seed = 77L + run;
            for (int warm = 0; warm < 5; warm++) {
                below(10);
            }
            oneRun(run);
        }
        Check.end("LongRunsTest");
    }

    private static void oneRun(int run) {
        Opticmesh fast = new Opticmesh();
        SlowMesh slow = new SlowMesh();
        nodes = 4;
        wavelengths = 4;
        style = below(4);
        StringBuilder told = new StringBuilder();
        int calls = 0;
        if (below(8) > 0) {
            calls += call(told, fast, slow, 0, run);
        }
        int fibres = below(15);
        for (int fibre = 0; fibre < fibres; fibre++) {
            calls += call(told, fast, slow, 1, run);
        }
        while (calls < CALLS && Check.allRight()) {
            calls += call(told, fast, slow, pick(), run);
        }
        if (!Check.allRight()) {
            System.out.println(told);
        }
    }

    private static int pick() {
        int roll = below(style == 0 ? 2000 : 400);
        if (roll == 0) {
            return 0;
        }
        int[] often = {1, 2, 2, 3, 4, 4, 5, 6, 7, 8, 9, 9, 9, 9, 9, 9, 10, 10, 10, 10, 11, 11, 12, 13, 14,
            15, 15, 16, 16, 17, 18, 18, 18, 18, 18, 19, 19, 19, 20, 21, 21, 22, 22};
        int call = often[below(often.length)];
        return style == 1 && call == 11 && below(2) == 0 ? 9 : call;
    }

    private static int call(StringBuilder told, Opticmesh fast, SlowMesh slow, int which, int run) {
        int most = style == 3 ? 3 : 8;
        int[] a = {0, 0, 0, 0};
        switch (which) {
            case 0 -> {
                a[0] = below(30) == 0 ? below(12) - 1 : 2 + below(7);
                // Slow lists of all ways stay short: many wavelengths stand in small networks.
                int top = a[0] <= 4 ? most : a[0] <= 6 ? 3 : 2;
                a[1] = below(30) == 0 ? below(2) * 9 : 1 + below(top);
            }
            case 1 -> {
                a[0] = about(nodes);
                a[1] = about(nodes);
                a[2] = below(40) == 0 ? below(2) * 1001 : below(3) > 0 ? 1 + below(4) : 1 + below(1000);
            }
            case 2 -> a[0] = about(nodes);
            case 3, 4 -> a[0] = about(14);
            case 6 -> {
                a[0] = about(slowFibres(slow));
                a[1] = about(wavelengths);
            }
            case 9 -> {
                a[0] = about(nodes);
                a[1] = about(nodes);
                a[2] = below(40) == 0 ? below(2) * 11 : style == 1 ? 1 + below(3) : 1 + below(10);
                a[3] = below(40) == 0 ? -1 + below(2) * 4 : below(3);
            }
            case 10 -> {
                a[0] = about(nodes);
                a[1] = about(nodes);
                a[2] = below(40) == 0 ? -1 + below(2) * 4 : below(3);
            }
            case 11, 12 -> a[0] = about(slow.requests());
            case 15, 16, 19 -> a[0] = about(slow.lights());
            case 17 -> {
                a[0] = about(slow.lights());
                a[1] = about(2);
            }
            case 18 -> {
                a[0] = about(slow.lights());
                a[1] = about(2);
                a[2] = about(3);
            }
            default -> {
            }
        }
        String text = "call " + which + " (" + a[0] + ", " + a[1] + ", " + a[2] + ", " + a[3] + ")";
        String want = answer(slow, which, a);
        String got = answer(fast, which, a);
        if (which == 0 && want.equals("0")) {
            nodes = a[0];
            wavelengths = a[1];
        }
        told.append(text).append(" -> ").append(want).append('\n');
        if (!want.equals(got)) {
            System.out.println("run " + run + ": " + text + " answers " + got + ", due is " + want);
        }
        Check.same("run " + run, 1, want.equals(got) ? 1 : 0);
        return 1;
    }

    private static int slowFibres(SlowMesh slow) {
        int fibres = 0;
        try {
            while (fibres < 14) {
                slow.lightOn(fibres, 0);
                fibres++;
            }
        } catch (IndexOutOfBoundsException none) {
            return fibres;
        }
        return fibres;
    }

    private static String answer(SlowMesh x, int which, int[] a) {
        try {
            return switch (which) {
                case 0 -> {
                    x.begin(a[0], a[1]);
                    yield "0";
                }
                case 1 -> "" + x.addFibre(a[0], a[1], a[2]);
                case 2 -> "" + x.toggleConverter(a[0]);
                case 3 -> "" + x.cut(a[0]);
                case 4 -> "" + x.repair(a[0]);
                case 5 -> "" + x.load();
                case 6 -> "" + x.lightOn(a[0], a[1]);
                case 7, 8 -> "" + x.usage();
                case 9 -> "" + x.request(a[0], a[1], a[2], a[3]);
                case 10 -> "" + x.newLength(a[0], a[1], a[2]);
                case 11 -> "" + x.release(a[0]);
                case 12 -> "" + x.lightOf(a[0]);
                case 13 -> "" + x.requests();
                case 14 -> "" + x.lights();
                case 15 -> "" + x.state(a[0]);
                case 16 -> "" + x.units(a[0]);
                case 17 -> "" + x.channels(a[0], a[1]);
                case 18 -> "" + x.channel(a[0], a[1], a[2]);
                case 19 -> "" + x.reroute(a[0]);
                case 20 -> "" + x.merge();
                case 21 -> "" + x.move();
                default -> "" + x.wavelengthsNeeded();
            };
        } catch (RuntimeException thrown) {
            return thrown.getClass().getName();
        }
    }

    private static String answer(Opticmesh x, int which, int[] a) {
        try {
            return switch (which) {
                case 0 -> {
                    x.begin(a[0], a[1]);
                    yield "0";
                }
                case 1 -> "" + x.addFibre(a[0], a[1], a[2]);
                case 2 -> x.toggleConverter(a[0]) ? "1" : "0";
                case 3 -> "" + x.cut(a[0]);
                case 4 -> "" + x.repair(a[0]);
                case 5 -> "" + x.load();
                case 6 -> "" + x.lightOn(a[0], a[1]);
                case 7, 8 -> "" + x.usage();
                case 9 -> "" + x.request(a[0], a[1], a[2], a[3]);
                case 10 -> "" + x.newLength(a[0], a[1], a[2]);
                case 11 -> "" + x.release(a[0]);
                case 12 -> "" + x.lightOf(a[0]);
                case 13 -> "" + x.requests();
                case 14 -> "" + x.lights();
                case 15 -> "" + x.state(a[0]);
                case 16 -> "" + x.units(a[0]);
                case 17 -> "" + x.channels(a[0], a[1]);
                case 18 -> "" + x.channel(a[0], a[1], a[2]);
                case 19 -> "" + x.reroute(a[0]);
                case 20 -> "" + x.merge();
                case 21 -> "" + x.move();
                default -> "" + x.wavelengthsNeeded();
            };
        } catch (RuntimeException thrown) {
            return thrown.getClass().getName();
        }
    }
}
