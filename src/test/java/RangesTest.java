/** Each range that the document names, for each argument of each call: both ends, and what lies beyond them. */
public final class RangesTest {

    private static final int[] MANY = {
        Integer.MIN_VALUE, Integer.MIN_VALUE + 1, Integer.MIN_VALUE + 2, -65536, -65535, -256, -255, -128, -64, -63,
        -32, -31, -16, -10, -8, -2, -1, 0, 1, 2, 3, 4, 7, 8, 9, 10, 11, 12, 13, 14, 15, 16, 31, 32, 33, 59, 60, 61,
        63, 64, 65, 127, 128, 255, 256, 257, 999, 1000, 1001, 1002, 1255, 1256, 32767, 32768, 65535, 65536, 65537,
        Integer.MAX_VALUE - 1, Integer.MAX_VALUE
    };

    interface Call {
        int run(int argument);
    }

    public static void main(String[] args) {
        beginTakesEverySize();
        beginArguments();
        nodesOfAddFibre();
        lengthOfAddFibre();
        nodeOfToggleConverter();
        fibreOfCutAndRepair();
        fibreAndWavelengthOfLightOn();
        nodesOfRequest();
        demandAndRuleOfRequest();
        argumentsOfNewLength();
        requestOfReleaseAndLightOf();
        lightOfStateUnitsAndReroute();
        wayOfALight();
        wayAndPlaceOfALight();
        placeInAWay();
        Check.end("RangesTest");
    }

    /** Of many numbers all that lie outside a range are refused, and all within are not refused in this way. */
    private static void range(String what, int low, int high, int kind, Call call) {
        for (int number : MANY) {
            if (number < low || number > high) {
                Check.fails(what + " " + number, kind, () -> call.run(number));
            }
        }
        for (int number = low; number <= high; number++) {
            int within = number;
            Check.same(what + " " + number + " is in range", 1, isRefused(kind, () -> call.run(within)) ? 0 : 1);
        }
    }

    private static boolean isRefused(int kind, Check.Call call) {
        try {
            call.run();
        } catch (RuntimeException thrown) {
            return Check.kindOf(thrown) == kind || Check.kindOf(thrown) < 0;
        }
        return false;
    }

    private static int begin(Opticmesh x, int nodes, int wavelengths) {
        x.begin(nodes, wavelengths);
        return 0;
    }

    private static int toggle(Opticmesh x, int node) {
        return x.toggleConverter(node) ? 1 : 0;
    }

    /** Eight nodes in a row, two fibres from each one to the next, two lights, three requests. */
    private static Opticmesh busy() {
        Opticmesh x = new Opticmesh();
        x.begin(8, 8);
        for (int node = 1; node < 8; node++) {
            x.addFibre(node - 1, node, 10);
            x.addFibre(node, node - 1, 20);
        }
        x.request(0, 2, 4, 2);
        x.request(0, 3, 5, 0);
        x.request(3, 0, 5, 1);
        return x;
    }

    private static void beginTakesEverySize() {
        for (int nodes = 2; nodes <= 8; nodes++) {
            for (int wavelengths = 1; wavelengths <= 8; wavelengths++) {
                String what = "P2 begin(" + nodes + ", " + wavelengths + "): ";
                Opticmesh x = new Opticmesh();
                x.begin(nodes, wavelengths);
                int last = nodes - 1;
                int beyond = nodes;
                int tooHigh = wavelengths;
                Check.answers(what + "its last node", 0, () -> x.addFibre(last, 0, 7));
                Check.fails(what + "the node after that", Check.ARGUMENT, () -> x.addFibre(0, beyond, 7));
                Check.answers(what + "its last node converts", 1, () -> toggle(x, last));
                Check.fails(what + "no other one", Check.ARGUMENT, () -> toggle(x, beyond));
                for (int light = 0; light < wavelengths; light++) {
                    int channel = light;
                    Check.answers(what + "request", light, () -> x.request(0, last, 10, 1));
                    Check.answers(what + "wavelength " + light, channel, () -> x.channel(channel, 0, 0));
                }
                Check.fails(what + "no more wavelengths", Check.STATE, () -> x.request(0, last, 10, 0));
                Check.fails(what + "no such wavelength", Check.ARGUMENT, () -> x.lightOn(0, tooHigh));
                Check.same(what + "usage", 1f, x.usage());
            }
        }
    }

    private static void beginArguments() {
        range("P2 nodes", 2, 8, Check.ARGUMENT, nodes -> begin(new Opticmesh(), nodes, 4));
        range("P2 wavelengths", 1, 8, Check.ARGUMENT, wavelengths -> begin(new Opticmesh(), 4, wavelengths));
        Check.fails("P2 both out of range", Check.ARGUMENT, () -> begin(new Opticmesh(), 1, 9));
        Check.fails("P2 the two are not alike", Check.ARGUMENT, () -> begin(new Opticmesh(), 2, 0));
        Check.answers("P2 one wavelength, eight nodes", 0, () -> begin(new Opticmesh(), 8, 1));
        Check.answers("P2 eight wavelengths, two nodes", 0, () -> begin(new Opticmesh(), 2, 8));
    }

    private static void nodesOfAddFibre() {
        for (int nodes = 2; nodes <= 8; nodes++) {
            int many = nodes;
            range("P3 one of " + many, 1, many - 1, Check.ARGUMENT, node -> Mesh.with(many, 1, new int[][] {})
                .addFibre(node, 0, 1));
            range("P3 other of " + many, 0, many - 2, Check.ARGUMENT, node -> Mesh.with(many, 1, new int[][] {})
                .addFibre(many - 1, node, 1));
            for (int node = 0; node < nodes; node++) {
                int both = node;
                Check.fails("P3 both are " + node, Check.ARGUMENT, () -> Mesh.with(many, 1, new int[][] {})
                    .addFibre(both, both, 1));
            }
        }
    }

    private static void lengthOfAddFibre() {
        range("P3 length", 1, 1000, Check.ARGUMENT, length -> new Opticmesh().addFibre(0, 1, length));
        Opticmesh x = Mesh.with(2, 1, new int[][] {{0, 1, 1000}, {1, 0, 1}, {0, 1, 999}, {0, 1, 2}});
        for (int length : new int[] {1, 2, 999, 1000}) {
            Check.answers("P3 length " + length + " is kept", length, () -> x.newLength(0, 1, 0));
            x.request(0, 1, 10, 0);
        }
    }

    private static void nodeOfToggleConverter() {
        range("P4 node of 4", 0, 3, Check.ARGUMENT, node -> toggle(new Opticmesh(), node));
        range("P4 node of 8", 0, 7, Check.ARGUMENT, node -> toggle(busy(), node));
        range("P4 node of 2", 0, 1, Check.ARGUMENT, node -> toggle(Mesh.with(2, 8, new int[][] {}), node));
    }

    private static void fibreOfCutAndRepair() {
        range("P5 fibre of 14", 0, 13, Check.INDEX, fibre -> busy().cut(fibre));
        range("P6 fibre of 14", 0, 13, Check.INDEX, fibre -> busy().repair(fibre));
        range("P5 fibre of 1", 0, 0, Check.INDEX, fibre -> Mesh.with(2, 1, new int[][] {{0, 1, 1}}).cut(fibre));
        range("P6 fibre of 1", 0, 0, Check.INDEX, fibre -> Mesh.with(2, 1, new int[][] {{0, 1, 1}}).repair(fibre));
        range("P5 fibre of none", 0, -1, Check.INDEX, fibre -> new Opticmesh().cut(fibre));
        range("P6 fibre of none", 0, -1, Check.INDEX, fibre -> new Opticmesh().repair(fibre));
    }

    private static void fibreAndWavelengthOfLightOn() {
        Opticmesh x = busy();
        range("P7 fibre of 14", 0, 13, Check.INDEX, fibre -> x.lightOn(fibre, 7));
        range("P7 wavelength of 8", 0, 7, Check.ARGUMENT, wavelength -> x.lightOn(13, wavelength));
        range("P7 fibre of none", 0, -1, Check.INDEX, fibre -> new Opticmesh().lightOn(fibre, 0));
        Opticmesh y = Mesh.with(2, 1, new int[][] {{0, 1, 1}});
        range("P7 fibre of 1", 0, 0, Check.INDEX, fibre -> y.lightOn(fibre, 0));
        range("P7 wavelength of 1", 0, 0, Check.ARGUMENT, wavelength -> y.lightOn(0, wavelength));
    }

    private static void nodesOfRequest() {
        Opticmesh x = busy();
        range("P10 from of 8", 0, 6, Check.ARGUMENT, node -> x.request(node, 7, 1, 0));
        range("P10 to of 8", 1, 7, Check.ARGUMENT, node -> x.request(0, node, 1, 0));
        Opticmesh y = new Opticmesh();
        range("P10 from of 4", 0, 2, Check.ARGUMENT, node -> y.request(node, 3, 1, 0));
        range("P10 to of 4", 0, 2, Check.ARGUMENT, node -> y.request(3, node, 1, 0));
        for (int node = 0; node < 8; node++) {
            int both = node;
            Check.fails("P10 both are " + node, Check.ARGUMENT, () -> x.request(both, both, 1, 0));
        }
        Check.fails("P10 both are no node", Check.ARGUMENT, () -> x.request(8, 8, 1, 0));
    }

    private static void demandAndRuleOfRequest() {
        for (int rule = 0; rule <= 2; rule++) {
            int asked = rule;
            range("P10 demand by rule " + rule, 1, 10, Check.ARGUMENT, demand -> busy().request(0, 2, demand, asked));
            for (int demand = 1; demand <= 10; demand++) {
                int wanted = demand;
                Opticmesh x = Mesh.with(2, 1, new int[][] {{0, 1, 1}, {0, 1, 1}});
                Check.answers("P10 a demand of " + demand, 0, () -> x.request(0, 1, wanted, asked));
                Check.answers("P17 units " + demand, demand, () -> x.units(0));
            }
        }
        range("P10 rule", 0, 2, Check.ARGUMENT, rule -> busy().request(0, 2, 1, rule));
        range("P10 rule of a full light", 0, 2, Check.ARGUMENT, rule -> busy().request(0, 3, 10, rule));
    }

    private static void argumentsOfNewLength() {
        Opticmesh x = busy();
        range("P11 from of 8", 0, 6, Check.ARGUMENT, node -> x.newLength(node, 7, 0));
        range("P11 to of 8", 1, 7, Check.ARGUMENT, node -> x.newLength(0, node, 1));
        range("P11 rule", 0, 2, Check.ARGUMENT, rule -> x.newLength(7, 0, rule));
        Opticmesh y = new Opticmesh();
        range("P11 from of 4", 1, 3, Check.ARGUMENT, node -> y.newLength(node, 0, 2));
        range("P11 to of 4", 0, 2, Check.ARGUMENT, node -> y.newLength(3, node, 2));
        for (int node = 0; node < 8; node++) {
            int both = node;
            Check.fails("P11 both are " + node, Check.ARGUMENT, () -> x.newLength(both, both, 0));
        }
    }

    private static void requestOfReleaseAndLightOf() {
        range("P12 request of 3", 0, 2, Check.INDEX, request -> busy().release(request));
        range("P13 request of 3", 0, 2, Check.INDEX, request -> busy().lightOf(request));
        range("P12 request of none", 0, -1, Check.INDEX, request -> new Opticmesh().release(request));
        range("P13 request of none", 0, -1, Check.INDEX, request -> new Opticmesh().lightOf(request));
        Opticmesh x = Mesh.with(2, 8, new int[][] {{0, 1, 1}});
        for (int count = 0; count < 60; count++) {
            x.request(0, 1, 1, 0);
        }
        range("P13 request of 60", 0, 59, Check.INDEX, request -> x.lightOf(request));
        range("P12 request of 60", 0, 59, Check.INDEX, request -> x.release(request));
        range("P12 request of 60 that are released", 0, 59, Check.INDEX, request -> x.release(request));
        range("P13 request of 60 that are released", 0, 59, Check.INDEX, request -> x.lightOf(request));
    }

    private static void lightOfStateUnitsAndReroute() {
        Opticmesh x = busy();
        range("P16 light of 2", 0, 1, Check.INDEX, light -> x.state(light));
        range("P17 light of 2", 0, 1, Check.INDEX, light -> x.units(light));
        range("P20 light of 2", 0, 1, Check.INDEX, light -> x.reroute(light));
        range("P16 light of none", 0, -1, Check.INDEX, light -> new Opticmesh().state(light));
        range("P17 light of none", 0, -1, Check.INDEX, light -> new Opticmesh().units(light));
        range("P20 light of none", 0, -1, Check.INDEX, light -> new Opticmesh().reroute(light));
        x.release(0);
        x.release(1);
        x.release(2);
        range("P16 light of 2 that are gone", 0, 1, Check.INDEX, light -> x.state(light));
        range("P17 light of 2 that are gone", 0, 1, Check.INDEX, light -> x.units(light));
        range("P20 light of 2 that are gone", 0, 1, Check.INDEX, light -> x.reroute(light));
    }

    private static void wayOfALight() {
        Opticmesh x = busy();
        range("P18 light", 0, 1, Check.INDEX, light -> x.channels(light, 0));
        range("P18 way of a protected light", 0, 1, Check.INDEX, way -> x.channels(0, way));
        range("P18 way of another light", 0, 0, Check.INDEX, way -> x.channels(1, way));
        x.release(1);
        x.release(2);
        range("P18 way of a light that is gone", 0, -1, Check.INDEX, way -> x.channels(1, way));
        range("P18 light beside it", 0, 0, Check.INDEX, light -> x.channels(light, 1));
        range("P18 light of none", 0, -1, Check.INDEX, light -> new Opticmesh().channels(light, 0));
    }

    private static void wayAndPlaceOfALight() {
        Opticmesh x = busy();
        range("P19 light", 0, 1, Check.INDEX, light -> x.channel(light, 0, 0));
        range("P19 way of a protected light", 0, 1, Check.INDEX, way -> x.channel(0, way, 0));
        range("P19 way of another light", 0, 0, Check.INDEX, way -> x.channel(1, way, 0));
        x.release(0);
        range("P19 way of a protected light that is gone", 0, -1, Check.INDEX, way -> x.channel(0, way, 0));
        range("P19 place of a protected light that is gone", 0, -1, Check.INDEX, place -> x.channel(0, 1, place));
        range("P19 light of none", 0, -1, Check.INDEX, light -> new Opticmesh().channel(light, 0, 0));
    }

    private static void placeInAWay() {
        Opticmesh x = busy();
        x.request(0, 7, 1, 2);
        range("P19 place of 2", 0, 1, Check.INDEX, place -> x.channel(0, 1, place));
        range("P19 place of 3", 0, 2, Check.INDEX, place -> x.channel(1, 0, place));
        range("P19 place of 7", 0, 6, Check.INDEX, place -> x.channel(2, 0, place));
        range("P19 place of 7 in way 1", 0, 6, Check.INDEX, place -> x.channel(2, 1, place));
        x.release(1);
        x.release(2);
        range("P19 place of a light that is gone", 0, -1, Check.INDEX, place -> x.channel(1, 0, place));
    }
}
