import java.util.Arrays;

/** Promise 23 against a slow telling, in networks full of lights that cross one another in many ways. */
public final class ColouringTest {

    private static final int RUNS = 4000;

    private static long seed = 4711L;

    public static void main(String[] args) {
        int beyondLoad = 0;
        for (int run = 0; run < RUNS; run++) {
            beyondLoad += oneNetwork(run);
        }
        Check.same("some need more than the load", 1, beyondLoad > RUNS / 20 ? 1 : 0);
        Check.end("ColouringTest");
    }

    private static int below(int bound) {
        seed = seed * 6364136223846793005L + 1442695040888963407L;
        return (int) ((seed >>> 33) % bound);
    }

    private static int oneNetwork(int run) {
        Opticmesh x = new Opticmesh();
        int shape = run % 3;
        int nodes = shape == 0 ? 4 + 2 * below(2) : shape == 1 ? 5 : 4 + below(5);
        int wavelengths = 3 + below(6);
        x.begin(nodes, wavelengths);
        int fibres = addFibres(x, nodes, shape);
        for (int node = 0; node < nodes; node++) {
            if (below(6) > 0) {
                x.toggleConverter(node);
            }
        }
        for (int tries = 0; tries < 40; tries++) {
            askForALight(x, shape == 0 ? 1 : 0, nodes, fibres);
        }
        int[] ways = waysZero(x);
        int due = leastFor(ways);
        Check.answers("P23 run " + run, due, () -> x.wavelengthsNeeded());
        return due > mostOnAFibre(ways) ? 1 : 0;
    }

    /** Shape 0 is a star round node 0, with lights between the others; 1 a ring; 2 a tree with some fibres more. */
    private static int addFibres(Opticmesh x, int nodes, int shape) {
        int fibres = shape == 0 ? nodes - 1 : shape == 1 ? nodes : nodes - 1 + below(4);
        for (int fibre = 0; fibre < fibres; fibre++) {
            int one = fibre < nodes - 1 ? fibre + 1 : shape == 1 ? 0 : below(nodes);
            int inTree = shape == 0 ? 0 : shape == 1 ? fibre : below(fibre + 1);
            int other = fibre < nodes - 1 ? inTree : shape == 1 ? nodes - 1 : (one + 1 + below(nodes - 1)) % nodes;
            x.addFibre(one, other, 1 + below(9));
        }
        return fibres;
    }

    /** A fibre is cut for the while, so that lights take other ways than the shortest. */
    private static void askForALight(Opticmesh x, int lowest, int nodes, int fibres) {
        int many = nodes - lowest;
        int one = below(many);
        int other = (one + 1 + below(many - 1)) % many;
        int cut = below(fibres);
        x.cut(cut);
        try {
            int request = x.request(lowest + one, lowest + other, 10, below(8) == 0 ? 2 : below(2));
            if (below(12) == 0) {
                x.release(request);
            }
        } catch (IllegalStateException none) {
            // There may be no way, or twelve lights already.
        }
        x.repair(cut);
    }

    private static int[] waysZero(Opticmesh x) {
        int[] ways = new int[12];
        int count = 0;
        for (int light = 0; light < x.lights(); light++) {
            if (x.state(light) != 2) {
                for (int place = 0; place < x.channels(light, 0); place++) {
                    ways[count] |= 1 << x.channel(light, 0, place) / 10;
                }
                count++;
            }
        }
        return Arrays.copyOf(ways, count);
    }

    private static int mostOnAFibre(int[] ways) {
        int most = 0;
        for (int fibre = 0; fibre < 14; fibre++) {
            int count = 0;
            for (int way : ways) {
                count += way >> fibre & 1;
            }
            most = Math.max(most, count);
        }
        return most;
    }

    /** For each set of ways the least number: one for a part that bears one wavelength, and that of the rest. */
    private static int leastFor(int[] ways) {
        boolean[] bearsOne = new boolean[1 << ways.length];
        for (int set = 0; set < bearsOne.length; set++) {
            bearsOne[set] = haveNoFibreTwice(ways, set);
        }
        int[] least = new int[bearsOne.length];
        for (int set = 1; set < least.length; set++) {
            least[set] = ways.length;
            for (int part = set; part > 0; part = (part - 1) & set) {
                if (bearsOne[part]) {
                    least[set] = Math.min(least[set], 1 + least[set & ~part]);
                }
            }
        }
        return least[least.length - 1];
    }

    private static boolean haveNoFibreTwice(int[] ways, int set) {
        int seen = 0;
        for (int way = 0; way < ways.length; way++) {
            if ((set >> way & 1) != 0) {
                if ((seen & ways[way]) != 0) {
                    return false;
                }
                seen |= ways[way];
            }
        }
        return true;
    }
}
