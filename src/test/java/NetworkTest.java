/** Promises 1 to 9: the network. */
public final class NetworkTest {

    public static void main(String[] args) {
        aNewObject();
        begin();
        beginForgets();
        beginForgetsLights();
        beginOutOfRange();
        addFibre();
        addFibreOutOfRange();
        addFibreFourteen();
        toggleConverter();
        convertingLightsStay();
        cut();
        cutImpossible();
        repair();
        repairImpossible();
        cutAndRepairProtected();
        lightOn();
        lightOnOutOfRange();
        load();
        usage();
        Check.end("NetworkTest");
    }

    private static int begin(Opticmesh x, int nodes, int wavelengths) {
        x.begin(nodes, wavelengths);
        return 0;
    }

    private static int toggle(Opticmesh x, int node) {
        return x.toggleConverter(node) ? 1 : 0;
    }

    /** Nodes in a row, with a fibre of length 10 from each one to the next. */
    private static Opticmesh row(int nodes, int wavelengths) {
        Opticmesh x = new Opticmesh();
        x.begin(nodes, wavelengths);
        for (int node = 1; node < nodes; node++) {
            x.addFibre(node - 1, node, 10);
        }
        return x;
    }

    private static void aNewObject() {
        Opticmesh x = new Opticmesh();
        Check.answers("P1 load", 0, () -> x.load());
        Check.fails("P1 usage without fibres", Check.STATE, () -> (int) x.usage());
        Check.fails("P1 cut without fibres", Check.INDEX, () -> x.cut(0));
        Check.answers("P1 requests", 0, () -> x.requests());
        Check.answers("P1 lights", 0, () -> x.lights());
        Check.answers("P1 wavelengthsNeeded", 0, () -> x.wavelengthsNeeded());
        Check.fails("P1 node 4", Check.ARGUMENT, () -> x.addFibre(3, 4, 1));
        Check.answers("P1 node 3", 0, () -> x.addFibre(0, 3, 1));
        Check.answers("P1 wavelength 3", -1, () -> x.lightOn(0, 3));
        Check.fails("P1 wavelength 4", Check.ARGUMENT, () -> x.lightOn(0, 4));
        for (int node = 0; node < 4; node++) {
            int asked = node;
            Check.answers("P1 node " + node + " can't convert", 1, () -> toggle(x, asked));
        }
    }

    private static void begin() {
        Opticmesh x = new Opticmesh();
        Check.answers("P2 begin(2, 1)", 0, () -> begin(x, 2, 1));
        Check.fails("P2 node 2 of 2", Check.ARGUMENT, () -> x.addFibre(0, 2, 1));
        Check.answers("P2 node 1 of 2", 0, () -> x.addFibre(0, 1, 1));
        Check.answers("P2 wavelength 0 of 1", -1, () -> x.lightOn(0, 0));
        Check.fails("P2 wavelength 1 of 1", Check.ARGUMENT, () -> x.lightOn(0, 1));
        Check.answers("P2 begin(8, 8)", 0, () -> begin(x, 8, 8));
        Check.answers("P2 node 7 of 8", 0, () -> x.addFibre(0, 7, 1));
        Check.fails("P2 node 8 of 8", Check.ARGUMENT, () -> x.addFibre(0, 8, 1));
        Check.answers("P2 wavelength 7 of 8", -1, () -> x.lightOn(0, 7));
        Check.fails("P2 wavelength 8 of 8", Check.ARGUMENT, () -> x.lightOn(0, 8));
    }

    private static void beginForgets() {
        Opticmesh x = row(3, 2);
        x.toggleConverter(1);
        x.request(0, 2, 3, 0);
        x.cut(0);
        Check.answers("P2 begin again", 0, () -> begin(x, 3, 2));
        Check.fails("P2 no fibre", Check.INDEX, () -> x.lightOn(0, 0));
        Check.answers("P2 no request", 0, () -> x.requests());
        Check.answers("P2 no light", 0, () -> x.lights());
        Check.fails("P2 request 0", Check.INDEX, () -> x.lightOf(0));
        Check.fails("P2 light 0", Check.INDEX, () -> x.state(0));
        Check.answers("P2 fibre 0 anew", 0, () -> x.addFibre(0, 1, 10));
        Check.fails("P2 fibre 0 is not cut", Check.STATE, () -> x.repair(0));
        Check.answers("P2 channels are free", -1, () -> x.lightOn(0, 0));
        Check.answers("P2 node 1 can't convert", 1, () -> toggle(x, 1));
        Check.answers("P2 requests from 0", 0, () -> x.request(0, 1, 10, 0));
        Check.answers("P2 lights from 0", 0, () -> x.lightOf(0));
        Check.answers("P2 its units", 10, () -> x.units(0));
    }

    /** Lights from before begin are on no channel, and none of them is up, merged or moved. */
    private static void beginForgetsLights() {
        Opticmesh x = row(2, 4);
        x.request(0, 1, 1, 0);
        x.request(0, 1, 10, 0);
        x.request(0, 1, 9, 0);
        x.release(1);
        x.request(0, 1, 1, 0);
        x.begin(2, 4);
        x.addFibre(0, 1, 10);
        Check.answers("P2 no channel is used", 0, () -> x.load());
        Check.same("P2 none at all", 0f, x.usage());
        Check.answers("P2 no light needs a wavelength", 0, () -> x.wavelengthsNeeded());
        Check.fails("P2 no light can be moved", Check.STATE, () -> x.move());
        Check.fails("P2 no lights can be merged", Check.STATE, () -> x.merge());
        Check.answers("P2 no light goes down", 0, () -> x.cut(0));
        Check.answers("P2 no light goes up", 0, () -> x.repair(0));
        Check.answers("P2 no light has room", 0, () -> x.request(0, 1, 1, 0));
        Check.answers("P2 the new light is the first", 0, () -> x.lightOf(0));
        Check.answers("P2 it has its own units alone", 1, () -> x.units(0));
        Check.fails("P2 light 1 is no more", Check.INDEX, () -> x.state(1));
        Check.fails("P2 nor are its units", Check.INDEX, () -> x.units(1));
        Check.fails("P2 nor is its way", Check.INDEX, () -> x.channels(1, 0));
        Check.fails("P2 nor can it be rerouted", Check.INDEX, () -> x.reroute(1));
    }

    private static void beginOutOfRange() {
        Opticmesh x = row(3, 2);
        x.request(0, 1, 1, 0);
        int[][] wrong = {{1, 4}, {9, 4}, {4, 0}, {4, 9}, {-3, 4}, {4, -1}, {Integer.MAX_VALUE, 1}, {2, Integer.MIN_VALUE}};
        for (int[] pair : wrong) {
            Check.fails("P2 begin out of range", Check.ARGUMENT, () -> begin(x, pair[0], pair[1]));
        }
        Check.answers("P2 a failed begin changes nothing", 0, () -> x.lightOn(0, 0));
        Check.answers("P2 nor the requests", 1, () -> x.requests());
        Check.fails("P2 nor the wavelengths", Check.ARGUMENT, () -> x.lightOn(0, 2));
    }

    private static void addFibre() {
        Opticmesh x = new Opticmesh();
        Check.answers("P3 first fibre", 0, () -> x.addFibre(0, 1, 1));
        Check.answers("P3 second fibre", 1, () -> x.addFibre(3, 2, 1000));
        Check.answers("P3 the same nodes again", 2, () -> x.addFibre(1, 0, 7));
        Check.answers("P3 its length", 1, () -> x.newLength(0, 1, 0));
        Check.answers("P3 the other direction", 1, () -> x.newLength(1, 0, 0));
        Check.answers("P3 length 1000", 1000, () -> x.newLength(2, 3, 0));
        Check.answers("P3 both of them", 8, () -> x.newLength(0, 1, 2));
    }

    private static void addFibreOutOfRange() {
        Opticmesh x = new Opticmesh();
        int[][] wrong = {{0, 0, 1}, {-1, 1, 1}, {0, -1, 1}, {4, 1, 1}, {0, 4, 1}, {0, 1, 0}, {0, 1, -5}, {0, 1, 1001},
            {Integer.MIN_VALUE, 0, 1}, {0, Integer.MAX_VALUE, 1}};
        for (int[] row : wrong) {
            Check.fails("P3 addFibre out of range", Check.ARGUMENT, () -> x.addFibre(row[0], row[1], row[2]));
        }
        Check.answers("P3 nothing was added", 0, () -> x.addFibre(0, 1, 1));
    }

    private static void addFibreFourteen() {
        Opticmesh x = new Opticmesh();
        for (int fibre = 0; fibre < 14; fibre++) {
            int number = fibre;
            Check.answers("P3 fibre " + fibre, fibre, () -> x.addFibre(0, 1, 100 - number));
        }
        Check.fails("P3 a fifteenth fibre", Check.STATE, () -> x.addFibre(0, 1, 1));
        Check.fails("P3 the argument goes first", Check.ARGUMENT, () -> x.addFibre(0, 0, 1));
        Check.answers("P3 nothing was added then", 87, () -> x.newLength(0, 1, 0));
        Check.fails("P3 there is no fibre 14", Check.INDEX, () -> x.lightOn(14, 0));
        Check.answers("P3 there is a fibre 13", -1, () -> x.lightOn(13, 0));
    }

    private static void toggleConverter() {
        Opticmesh x = row(3, 2);
        x.request(0, 1, 10, 0);
        x.request(1, 2, 10, 0);
        x.request(1, 2, 10, 0);
        x.release(1);
        Check.fails("P4 no way without conversion", Check.STATE, () -> x.newLength(0, 2, 0));
        Check.answers("P4 toggle", 1, () -> toggle(x, 1));
        Check.answers("P4 a way with a conversion", 20, () -> x.newLength(0, 2, 0));
        Check.answers("P4 toggle back", 0, () -> toggle(x, 1));
        Check.fails("P4 no way again", Check.STATE, () -> x.newLength(0, 2, 0));
        Check.answers("P4 another node", 1, () -> toggle(x, 0));
        Check.fails("P4 another node doesn't help", Check.STATE, () -> x.newLength(0, 2, 0));
        int[] wrong = {-1, 3, 4, 32, Integer.MIN_VALUE, Integer.MAX_VALUE};
        for (int node : wrong) {
            Check.fails("P4 toggle node " + node, Check.ARGUMENT, () -> toggle(x, node));
        }
        Check.answers("P4 nothing has changed", 0, () -> toggle(x, 0));
    }

    private static void convertingLightsStay() {
        Opticmesh x = row(3, 2);
        x.request(0, 1, 10, 0);
        x.request(1, 2, 10, 0);
        x.request(1, 2, 10, 0);
        x.release(1);
        x.toggleConverter(1);
        Check.answers("P4 a light that converts", 3, () -> x.request(0, 2, 4, 0));
        Check.answers("P4 its first channel", 1, () -> x.channel(3, 0, 0));
        Check.answers("P4 its second channel", 10, () -> x.channel(3, 0, 1));
        Check.answers("P4 the node can't convert any more", 0, () -> toggle(x, 1));
        Check.answers("P4 the light stays up", 0, () -> x.state(3));
        Check.answers("P4 and where it is", 3, () -> x.lightOn(1, 0));
        Check.answers("P4 and has room", 4, () -> x.request(2, 0, 6, 1));
        Check.answers("P4 for others", 3, () -> x.lightOf(4));
        Check.fails("P4 but it can't be made anew", Check.STATE, () -> x.reroute(3));
    }

    private static void cut() {
        Opticmesh x = row(4, 2);
        x.request(0, 1, 10, 0);
        x.request(0, 2, 10, 0);
        x.request(2, 3, 10, 0);
        Check.answers("P5 two lights go down", 2, () -> x.cut(0));
        Check.answers("P5 light 0", 1, () -> x.state(0));
        Check.answers("P5 light 1", 1, () -> x.state(1));
        Check.answers("P5 light 2", 0, () -> x.state(2));
        Check.answers("P5 a down light counts no more", 0, () -> x.cut(1));
        Check.answers("P5 channels stay used", 1, () -> x.lightOn(1, 1));
        Check.fails("P5 no way over a cut fibre", Check.STATE, () -> x.newLength(0, 1, 0));
        x.release(2);
        Check.answers("P5 a light that is gone doesn't count", 0, () -> x.cut(2));
        Check.answers("P5 it stays gone", 2, () -> x.state(2));
    }

    private static void cutImpossible() {
        Opticmesh x = row(3, 2);
        x.request(0, 1, 10, 0);
        x.cut(0);
        Check.fails("P5 cut again", Check.STATE, () -> x.cut(0));
        int[] wrong = {-1, 2, 14, 32, Integer.MIN_VALUE, Integer.MAX_VALUE};
        for (int fibre : wrong) {
            Check.fails("P5 cut " + fibre, Check.INDEX, () -> x.cut(fibre));
        }
        Check.answers("P5 the fibre is still cut", 1, () -> x.repair(0));
    }

    private static void repair() {
        Opticmesh x = row(4, 2);
        x.request(0, 1, 10, 0);
        x.request(0, 2, 10, 0);
        x.cut(0);
        x.cut(1);
        Check.answers("P6 one light is up again", 1, () -> x.repair(0));
        Check.answers("P6 light 0", 0, () -> x.state(0));
        Check.answers("P6 light 1 has another cut fibre", 1, () -> x.state(1));
        Check.answers("P6 now it is up", 1, () -> x.repair(1));
        Check.answers("P6 light 1", 0, () -> x.state(1));
        x.cut(2);
        Check.answers("P6 no light there", 0, () -> x.repair(2));
        x.cut(0);
        x.release(0);
        x.release(1);
        Check.answers("P6 lights that are gone don't count", 0, () -> x.repair(0));
        Check.answers("P6 they stay gone", 2, () -> x.state(0));
        Check.answers("P6 the fibre can be used again", 10, () -> x.newLength(0, 1, 0));
    }

    private static void repairImpossible() {
        Opticmesh x = row(3, 2);
        Check.fails("P6 repair a whole fibre", Check.STATE, () -> x.repair(0));
        int[] wrong = {-1, 2, 14, 32, Integer.MIN_VALUE, Integer.MAX_VALUE};
        for (int fibre : wrong) {
            Check.fails("P6 repair " + fibre, Check.INDEX, () -> x.repair(fibre));
        }
        x.cut(1);
        Check.fails("P6 another fibre is cut", Check.STATE, () -> x.repair(0));
        x.repair(1);
        Check.fails("P6 repair again", Check.STATE, () -> x.repair(1));
    }

    private static void cutAndRepairProtected() {
        Opticmesh x = new Opticmesh();
        x.addFibre(0, 1, 1);
        x.addFibre(0, 1, 2);
        x.request(0, 1, 10, 2);
        Check.answers("P5 the second way holds", 0, () -> x.cut(0));
        Check.answers("P5 it is up", 0, () -> x.state(0));
        Check.answers("P5 both ways cut", 1, () -> x.cut(1));
        Check.answers("P5 it is down", 1, () -> x.state(0));
        Check.answers("P6 the first way holds", 1, () -> x.repair(0));
        Check.answers("P6 it was up", 0, () -> x.repair(1));
        Check.answers("P5 the first way holds", 0, () -> x.cut(1));
        Check.answers("P5 it stays up", 0, () -> x.state(0));
    }

    private static void lightOn() {
        Opticmesh x = row(3, 2);
        x.addFibre(0, 2, 100);
        x.request(0, 1, 10, 0);
        x.request(0, 2, 10, 2);
        Check.answers("P7 light 0", 0, () -> x.lightOn(0, 0));
        Check.answers("P7 light 1", 1, () -> x.lightOn(0, 1));
        Check.answers("P7 its first way", 1, () -> x.lightOn(1, 1));
        Check.answers("P7 a free channel", -1, () -> x.lightOn(1, 0));
        Check.answers("P7 its second way", 1, () -> x.lightOn(2, 0));
        x.cut(2);
        Check.answers("P7 a cut fibre", 1, () -> x.lightOn(2, 0));
        x.release(1);
        Check.answers("P7 the light is gone", -1, () -> x.lightOn(2, 0));
        Check.answers("P7 from its first way too", -1, () -> x.lightOn(0, 1));
        Check.answers("P7 the other one stays", 0, () -> x.lightOn(0, 0));
    }

    private static void lightOnOutOfRange() {
        Opticmesh x = row(3, 2);
        int[] noFibres = {-1, 2, 14, 32, Integer.MIN_VALUE, Integer.MAX_VALUE};
        for (int fibre : noFibres) {
            Check.fails("P7 fibre " + fibre, Check.INDEX, () -> x.lightOn(fibre, 0));
            Check.fails("P7 the index goes first", Check.INDEX, () -> x.lightOn(fibre, 2));
        }
        int[] noWavelengths = {-1, 2, 8, 32, Integer.MIN_VALUE, Integer.MAX_VALUE};
        for (int wavelength : noWavelengths) {
            Check.fails("P7 wavelength " + wavelength, Check.ARGUMENT, () -> x.lightOn(0, wavelength));
        }
    }

    private static void load() {
        Opticmesh x = row(3, 3);
        Check.answers("P8 nothing is used", 0, () -> x.load());
        x.request(0, 1, 10, 0);
        Check.answers("P8 one", 1, () -> x.load());
        x.request(1, 2, 10, 0);
        Check.answers("P8 one on each fibre", 1, () -> x.load());
        x.request(0, 2, 10, 0);
        Check.answers("P8 two", 2, () -> x.load());
        x.request(1, 2, 10, 0);
        Check.answers("P8 three on fibre 1", 3, () -> x.load());
        x.cut(1);
        Check.answers("P8 cut fibres count", 3, () -> x.load());
        x.release(3);
        Check.answers("P8 lights that are gone don't", 2, () -> x.load());
        x.begin(3, 3);
        Check.answers("P8 without fibres", 0, () -> x.load());
    }

    private static void usage() {
        Opticmesh x = row(4, 2);
        Check.same("P9 nothing is used", 0f, x.usage());
        x.request(0, 2, 10, 0);
        Check.same("P9 two of six", 2f / 6f, x.usage());
        x.request(0, 1, 10, 0);
        Check.same("P9 three of six", 0.5f, x.usage());
        x.cut(0);
        Check.same("P9 cut fibres are included", 0.5f, x.usage());
        x.release(0);
        Check.same("P9 one of six", 1f / 6f, x.usage());
        x.addFibre(0, 3, 1);
        Check.same("P9 one of eight", 0.125f, x.usage());
        x.addFibre(0, 3, 5);
        x.request(0, 3, 1, 2);
        Check.same("P9 both ways count", 3f / 10f, x.usage());
        x.begin(2, 1);
        Check.fails("P9 without fibres", Check.STATE, () -> (int) x.usage());
    }
}
