import java.util.ArrayList;
import java.util.List;

/**
 * Calls that throw: which exception goes first, and that they change nothing. For each state and each refused
 * call the state is made twice, once with that call and once without it, and looked at in many ways.
 */
public final class RefusedCallsTest {

    interface Refused {
        void call(Opticmesh x);
    }

    record Row(String what, int kind, Refused refused) {
    }

    private enum State {
        NEW(4, 4, 0, 0, 0),
        NO_FIBRES(8, 8, 0, 0, 0),
        NO_LIGHTS(6, 2, 14, 0, 0),
        BUSY(5, 3, 7, 14, 12),
        ALL_CUT(5, 3, 7, 14, 12),
        TWELVE_LIGHTS(3, 6, 4, 15, 15),
        SIXTY_REQUESTS(2, 8, 2, 60, 7);

        final int nodes;
        final int wavelengths;
        final int fibres;
        final int requests;
        final int lights;

        State(int itsNodes, int itsWavelengths, int itsFibres, int itsRequests, int itsLights) {
            nodes = itsNodes;
            wavelengths = itsWavelengths;
            fibres = itsFibres;
            requests = itsRequests;
            lights = itsLights;
        }
    }

    private static final int VIEWS = 9;
    private static final String[] KINDS = {"another", "nothing", "INDEX", "ARGUMENT", "STATE"};

    public static void main(String[] args) {
        for (State state : State.values()) {
            String[] due = views(state, null);
            for (Row row : refusedIn(state)) {
                String[] got = views(state, row);
                for (int view = 0; view < VIEWS; view++) {
                    Check.same(state + ": " + row.what + " changes nothing, view " + view, due[view], got[view]);
                }
            }
        }
        theCountsAreAsTold();
        theBusyOneIsAsTold();
        refusedOverAndOver();
        Check.end("RefusedCallsTest");
    }

    // ---- the states

    private static Opticmesh make(State state) {
        return switch (state) {
            case NEW -> new Opticmesh();
            case NO_FIBRES -> noFibres();
            case NO_LIGHTS -> noLights();
            case BUSY -> busy();
            case ALL_CUT -> allCut();
            case TWELVE_LIGHTS -> twelveLights();
            case SIXTY_REQUESTS -> sixtyRequests();
        };
    }

    private static Opticmesh noFibres() {
        Opticmesh x = busy();
        x.begin(8, 8);
        x.toggleConverter(7);
        return x;
    }

    private static Opticmesh noLights() {
        Opticmesh x = new Opticmesh();
        x.begin(6, 2);
        for (int fibre = 0; fibre < 14; fibre++) {
            x.addFibre(fibre % 5, fibre % 5 + 1, 1 + fibre);
        }
        x.toggleConverter(2);
        x.cut(3);
        return x;
    }

    /** Lights: 0, 2, 4, 9 up, 5 converts at node 1, 6 protected, 8 can be moved, 11 down, 1, 3, 7, 10 gone. */
    private static Opticmesh busy() {
        Opticmesh x = Mesh.with(5, 3, new int[][] {{0, 1, 4}, {1, 2, 4}, {2, 3, 4}, {3, 4, 4}, {4, 0, 30},
            {1, 3, 50}, {0, 1, 7}});
        for (int light = 0; light < 3; light++) {
            x.request(0, 1, 10, 0);
        }
        x.release(1);
        x.request(1, 2, 10, 0);
        x.request(1, 2, 10, 0);
        x.release(3);
        x.toggleConverter(1);
        x.cut(6);
        x.request(0, 2, 4, 0);
        x.repair(6);
        x.request(0, 4, 3, 2);
        x.request(2, 3, 8, 0);
        x.request(3, 2, 9, 1);
        x.release(7);
        x.request(2, 3, 1, 0);
        x.request(3, 4, 5, 0);
        x.request(4, 3, 6, 0);
        x.request(3, 4, 2, 0);
        x.release(10);
        x.merge();
        x.request(1, 3, 2, 1);
        x.cut(5);
        return x;
    }

    private static Opticmesh allCut() {
        Opticmesh x = busy();
        for (int fibre = 0; fibre < 7; fibre++) {
            if (fibre != 5) {
                x.cut(fibre);
            }
        }
        return x;
    }

    private static Opticmesh twelveLights() {
        Opticmesh x = Mesh.with(3, 6, new int[][] {{0, 1, 5}, {1, 2, 5}, {0, 1, 6}, {0, 2, 90}});
        x.toggleConverter(1);
        for (int light = 0; light < 12; light++) {
            x.request(light % 2, light % 2 + 1, 6 + light % 5, light == 4 ? 1 : 0);
        }
        x.release(3);
        x.release(6);
        x.release(7);
        x.request(0, 2, 7, 0);
        x.request(0, 2, 7, 2);
        x.request(2, 0, 7, 0);
        return x;
    }

    private static Opticmesh sixtyRequests() {
        Opticmesh x = Mesh.with(2, 8, new int[][] {{0, 1, 5}, {0, 1, 6}});
        for (int count = 0; count < 60; count++) {
            x.request(0, 1, 1, count < 50 ? 0 : count < 55 ? 2 : 1);
        }
        for (int request = 0; request < 60; request += 7) {
            x.release(request);
        }
        return x;
    }

    private static void theCountsAreAsTold() {
        for (State state : State.values()) {
            Opticmesh x = make(state);
            Check.answers(state + ": requests", state.requests, () -> x.requests());
            Check.answers(state + ": lights", state.lights, () -> x.lights());
        }
    }

    private static void theBusyOneIsAsTold() {
        Opticmesh x = busy();
        int[] states = {0, 2, 0, 2, 0, 0, 0, 2, 0, 0, 2, 1};
        int[] units = {10, 0, 10, 0, 10, 4, 3, 0, 10, 8, 0, 2};
        for (int light = 0; light < 12; light++) {
            int asked = light;
            Check.answers("BUSY: state " + light, states[light], () -> x.state(asked));
            Check.answers("BUSY: units " + light, units[light], () -> x.units(asked));
        }
        Mesh.way("BUSY: the one that converts", x, 5, 0, 1, 10);
        Mesh.way("BUSY: the protected one, way 0", x, 6, 0, 62, 12, 22, 32);
        Mesh.way("BUSY: the protected one, way 1", x, 6, 1, 40);
        Mesh.way("BUSY: the one that can be moved", x, 8, 0, 21);
        Mesh.way("BUSY: the one that is down", x, 11, 0, 50);
        Check.answers("BUSY: a request that was taken over", 9, () -> x.lightOf(11));
        Check.answers("BUSY: it can be moved", 8, () -> x.move());
        Check.answers("ALL_CUT: move doesn't ask for cuts", 8, () -> allCut().move());
    }

    // ---- the refused calls

    private static List<Row> refusedIn(State state) {
        List<Row> rows = new ArrayList<>();
        outOfRange(rows, state);
        noSuch(rows, state);
        switch (state) {
            case NEW, NO_FIBRES -> withoutFibres(rows, state);
            case NO_LIGHTS -> fourteenFibres(rows);
            case BUSY -> amongLights(rows);
            case ALL_CUT -> amongCuts(rows);
            case TWELVE_LIGHTS -> amongTwelve(rows);
            case SIXTY_REQUESTS -> amongSixty(rows);
        }
        return rows;
    }

    private static void add(List<Row> rows, String what, int kind, Refused refused) {
        rows.add(new Row(what, kind, refused));
    }

    /** Arguments out of range, in states in which the call would not be possible either. */
    private static void outOfRange(List<Row> rows, State state) {
        int n = state.nodes;
        int[][] sizes = {{1, 1}, {9, 8}, {8, 9}, {2, 0}, {Integer.MAX_VALUE, 1}, {2, Integer.MIN_VALUE}};
        for (int[] size : sizes) {
            add(rows, "begin " + size[0] + " " + size[1], Check.ARGUMENT, x -> x.begin(size[0], size[1]));
        }
        int[][] fibres = {{-1, 0, 1}, {0, n, 1}, {1, 1, 1}, {0, 1, 0}, {0, 1, 1001}, {1, 0, Integer.MIN_VALUE}};
        for (int[] fibre : fibres) {
            add(rows, "addFibre out of range", Check.ARGUMENT, x -> x.addFibre(fibre[0], fibre[1], fibre[2]));
        }
        for (int node : new int[] {-1, n, n + 32, Integer.MIN_VALUE, Integer.MAX_VALUE}) {
            add(rows, "toggleConverter " + node, Check.ARGUMENT, x -> x.toggleConverter(node));
        }
        int[][] requests = {{-1, 0, 1, 0}, {0, n, 1, 0}, {1, 1, 1, 1}, {0, 1, 0, 0}, {0, 1, 11, 2}, {0, 1, 1, 3},
            {1, 0, 1, -1}, {0, 1, Integer.MAX_VALUE, 0}, {0, 1, Integer.MIN_VALUE, 0}, {n, n, 0, 3}};
        for (int[] request : requests) {
            add(rows, "request out of range", Check.ARGUMENT,
                x -> x.request(request[0], request[1], request[2], request[3]));
        }
        int[][] lengths = {{-1, 0, 0}, {0, n, 1}, {0, 0, 2}, {0, 1, 3}, {0, 1, -1}, {n, n, 0}};
        for (int[] length : lengths) {
            add(rows, "newLength out of range", Check.ARGUMENT, x -> x.newLength(length[0], length[1], length[2]));
        }
    }

    /** Fibres, lights and requests that do not exist; with lightOn a wavelength that does not exist either. */
    private static void noSuch(List<Row> rows, State state) {
        for (int fibre : new int[] {-1, state.fibres, 14, Integer.MIN_VALUE, Integer.MAX_VALUE}) {
            add(rows, "cut " + fibre, Check.INDEX, x -> x.cut(fibre));
            add(rows, "repair " + fibre, Check.INDEX, x -> x.repair(fibre));
            add(rows, "lightOn " + fibre, Check.INDEX, x -> x.lightOn(fibre, 0));
            add(rows, "lightOn the index goes first", Check.INDEX, x -> x.lightOn(fibre, state.wavelengths));
            add(rows, "lightOn the index goes first", Check.INDEX, x -> x.lightOn(fibre, -1));
        }
        for (int request : new int[] {-1, state.requests, 60, Integer.MIN_VALUE, Integer.MAX_VALUE}) {
            add(rows, "release " + request, Check.INDEX, x -> x.release(request));
            add(rows, "lightOf " + request, Check.INDEX, x -> x.lightOf(request));
        }
        for (int light : new int[] {-1, state.lights, 60, Integer.MIN_VALUE, Integer.MAX_VALUE}) {
            add(rows, "state " + light, Check.INDEX, x -> x.state(light));
            add(rows, "units " + light, Check.INDEX, x -> x.units(light));
            add(rows, "channels " + light, Check.INDEX, x -> x.channels(light, 0));
            add(rows, "channel " + light, Check.INDEX, x -> x.channel(light, 0, 0));
            add(rows, "reroute " + light, Check.INDEX, x -> x.reroute(light));
        }
    }

    private static void withoutFibres(List<Row> rows, State state) {
        add(rows, "usage", Check.STATE, x -> x.usage());
        add(rows, "merge", Check.STATE, x -> x.merge());
        add(rows, "move", Check.STATE, x -> x.move());
        for (int rule = 0; rule <= 2; rule++) {
            int asked = rule;
            add(rows, "request", Check.STATE, x -> x.request(0, state.nodes - 1, 1, asked));
            add(rows, "newLength", Check.STATE, x -> x.newLength(0, state.nodes - 1, asked));
        }
    }

    private static void fourteenFibres(List<Row> rows) {
        add(rows, "a fifteenth fibre", Check.STATE, x -> x.addFibre(0, 1, 1));
        add(rows, "cut again", Check.STATE, x -> x.cut(3));
        add(rows, "repair a whole one", Check.STATE, x -> x.repair(4));
        add(rows, "merge", Check.STATE, x -> x.merge());
        add(rows, "move", Check.STATE, x -> x.move());
        add(rows, "lightOn", Check.ARGUMENT, x -> x.lightOn(13, 2));
        add(rows, "lightOn a cut fibre", Check.ARGUMENT, x -> x.lightOn(3, -1));
    }

    private static void amongLights(List<Row> rows) {
        add(rows, "cut again", Check.STATE, x -> x.cut(5));
        add(rows, "repair a whole one", Check.STATE, x -> x.repair(0));
        add(rows, "lightOn", Check.ARGUMENT, x -> x.lightOn(6, 3));
        add(rows, "release a released one", Check.STATE, x -> x.release(1));
        add(rows, "release one released before merge", Check.STATE, x -> x.release(10));
        add(rows, "lightOf a released one", Check.STATE, x -> x.lightOf(7));
        add(rows, "reroute a protected one", Check.STATE, x -> x.reroute(6));
        for (int light : new int[] {1, 3, 7, 10}) {
            add(rows, "reroute a gone one", Check.STATE, x -> x.reroute(light));
            add(rows, "channels of a gone one", Check.INDEX, x -> x.channels(light, 0));
            add(rows, "channel of a gone one", Check.INDEX, x -> x.channel(light, 0, 0));
        }
        add(rows, "channels of a second way", Check.INDEX, x -> x.channels(0, 1));
        add(rows, "channel of a second way", Check.INDEX, x -> x.channel(0, 1, 0));
        add(rows, "channel beyond the last place", Check.INDEX, x -> x.channel(5, 0, 2));
        add(rows, "channel before the first place", Check.INDEX, x -> x.channel(6, 1, -1));
        add(rows, "channels of a third way", Check.INDEX, x -> x.channels(6, 2));
        add(rows, "a pair where there is none", Check.STATE, x -> x.request(2, 1, 1, 2));
        add(rows, "the length of that pair", Check.STATE, x -> x.newLength(2, 1, 2));
        add(rows, "merge", Check.STATE, x -> x.merge());
    }

    private static void amongCuts(List<Row> rows) {
        for (int fibre = 0; fibre < 7; fibre++) {
            int cut = fibre;
            add(rows, "cut again", Check.STATE, x -> x.cut(cut));
        }
        for (int light = 0; light < 12; light++) {
            int asked = light;
            add(rows, "reroute", Check.STATE, x -> x.reroute(asked));
        }
        for (int rule = 0; rule <= 2; rule++) {
            int asked = rule;
            add(rows, "request", Check.STATE, x -> x.request(0, 1, 1, asked));
            add(rows, "newLength", Check.STATE, x -> x.newLength(3, 2, asked));
        }
        add(rows, "merge", Check.STATE, x -> x.merge());
    }

    private static void amongTwelve(List<Row> rows) {
        for (int rule = 0; rule <= 2; rule++) {
            int asked = rule;
            add(rows, "a thirteenth light", Check.STATE, x -> x.request(0, 2, 10, asked));
            add(rows, "a thirteenth light of other ends", Check.STATE, x -> x.request(2, 1, 10, asked));
            add(rows, "the argument goes first", Check.ARGUMENT, x -> x.request(0, 2, 11, asked));
        }
        add(rows, "release a released one", Check.STATE, x -> x.release(6));
        add(rows, "lightOf a released one", Check.STATE, x -> x.lightOf(6));
        add(rows, "reroute a gone one", Check.STATE, x -> x.reroute(7));
        add(rows, "reroute a protected one", Check.STATE, x -> x.reroute(13));
        add(rows, "channel beyond the last place", Check.INDEX, x -> x.channel(0, 0, 1));
    }

    private static void amongSixty(List<Row> rows) {
        for (int rule = 0; rule <= 2; rule++) {
            int asked = rule;
            add(rows, "a 61st with room", Check.STATE, x -> x.request(0, 1, 1, asked));
            add(rows, "a 61st without room", Check.STATE, x -> x.request(1, 0, 10, asked));
            add(rows, "the argument goes first", Check.ARGUMENT, x -> x.request(0, 0, 1, asked));
        }
        add(rows, "release a released one", Check.STATE, x -> x.release(7));
        add(rows, "lightOf a released one", Check.STATE, x -> x.lightOf(56));
        add(rows, "repair a whole one", Check.STATE, x -> x.repair(1));
        add(rows, "reroute a protected one", Check.STATE, x -> x.reroute(5));
    }

    // ---- the views

    private static String[] views(State state, Row row) {
        String[] told = new String[VIEWS];
        for (int view = 0; view < VIEWS; view++) {
            Opticmesh x = make(state);
            if (row != null) {
                Check.fails(state + ": " + row.what, row.kind, () -> {
                    row.refused.call(x);
                    return 0;
                });
            }
            StringBuilder text = new StringBuilder();
            look(view, x, state, text);
            told[view] = text.toString();
        }
        return told;
    }

    private static void tell(StringBuilder text, Check.Call call) {
        try {
            text.append(call.run());
        } catch (RuntimeException thrown) {
            text.append(KINDS[1 + Check.kindOf(thrown)]);
        }
        text.append(' ');
    }

    private static void look(int view, Opticmesh x, State state, StringBuilder text) {
        switch (view) {
            case 0 -> lookAtLights(x, state, text);
            case 1 -> lookAtChannels(x, state, text);
            case 2 -> lookAtLengths(x, state, text);
            case 3 -> lookAtNodes(x, state, text);
            case 4 -> lookAtCuts(x, state, text);
            case 5 -> lookAtGrooming(x, state, text);
            case 6 -> lookAtMergesAndMoves(x, text);
            case 7 -> lookAtReleases(x, state, text);
            default -> lookAtReroutes(x, state, text);
        }
    }

    private static void lookAtLights(Opticmesh x, State state, StringBuilder text) {
        tell(text, () -> x.requests());
        tell(text, () -> x.lights());
        tell(text, () -> x.load());
        tell(text, () -> Float.floatToIntBits(x.usage()));
        tell(text, () -> x.wavelengthsNeeded());
        for (int request = 0; request < state.requests; request++) {
            int asked = request;
            tell(text, () -> x.lightOf(asked));
        }
        for (int light = 0; light < state.lights; light++) {
            int asked = light;
            tell(text, () -> x.state(asked));
            tell(text, () -> x.units(asked));
            for (int way = 0; way < 2; way++) {
                int itsWay = way;
                tell(text, () -> x.channels(asked, itsWay));
                for (int place = 0; place < 4; place++) {
                    int at = place;
                    tell(text, () -> x.channel(asked, itsWay, at));
                }
            }
        }
    }

    private static void lookAtChannels(Opticmesh x, State state, StringBuilder text) {
        for (int fibre = 0; fibre < state.fibres; fibre++) {
            for (int wavelength = 0; wavelength <= state.wavelengths; wavelength++) {
                int asked = fibre;
                int channel = wavelength;
                tell(text, () -> x.lightOn(asked, channel));
            }
        }
    }

    private static void lookAtLengths(Opticmesh x, State state, StringBuilder text) {
        for (int from = 0; from < state.nodes; from++) {
            for (int to = 0; to < state.nodes; to++) {
                for (int rule = 0; rule <= 2; rule++) {
                    int one = from;
                    int other = to;
                    int asked = rule;
                    tell(text, () -> x.newLength(one, other, asked));
                }
            }
        }
    }

    private static void lookAtNodes(Opticmesh x, State state, StringBuilder text) {
        for (int node = 0; node < 9; node++) {
            int asked = node;
            tell(text, () -> x.toggleConverter(asked) ? 1 : 0);
        }
        tell(text, () -> x.addFibre(0, state.nodes - 1, 1));
        tell(text, () -> x.addFibre(0, state.nodes, 1));
        tell(text, () -> x.request(0, state.nodes - 1, 10, 0));
    }

    private static void lookAtCuts(Opticmesh x, State state, StringBuilder text) {
        for (int fibre = 0; fibre < state.fibres; fibre++) {
            int asked = fibre;
            tell(text, () -> x.cut(asked));
        }
        for (int fibre = 0; fibre < state.fibres; fibre++) {
            int asked = fibre;
            tell(text, () -> x.repair(asked));
        }
        for (int light = 0; light < state.lights; light++) {
            int asked = light;
            tell(text, () -> x.state(asked));
        }
    }

    private static void lookAtGrooming(Opticmesh x, State state, StringBuilder text) {
        for (int demand = 1; demand <= 10; demand++) {
            for (int from = 0; from < 2; from++) {
                int wanted = demand;
                int one = from;
                tell(text, () -> x.request(one, 1 - one, wanted, wanted % 3));
            }
        }
        for (int request = state.requests; request < state.requests + 12; request++) {
            int asked = request;
            tell(text, () -> x.lightOf(asked));
        }
        tell(text, () -> x.lights());
    }

    private static void lookAtMergesAndMoves(Opticmesh x, StringBuilder text) {
        for (int round = 0; round < 14; round++) {
            tell(text, () -> x.merge());
        }
        for (int round = 0; round < 40; round++) {
            tell(text, () -> x.move());
        }
        tell(text, () -> x.load());
        tell(text, () -> x.wavelengthsNeeded());
    }

    private static void lookAtReleases(Opticmesh x, State state, StringBuilder text) {
        for (int request = 0; request < state.requests; request++) {
            int asked = request;
            tell(text, () -> x.release(asked));
        }
        for (int light = 0; light < state.lights; light++) {
            int asked = light;
            tell(text, () -> x.state(asked));
            tell(text, () -> x.units(asked));
        }
        tell(text, () -> x.load());
    }

    private static void lookAtReroutes(Opticmesh x, State state, StringBuilder text) {
        for (int light = 0; light < state.lights; light++) {
            int asked = light;
            tell(text, () -> x.reroute(asked));
            tell(text, () -> x.channel(asked, 0, 0));
        }
        tell(text, () -> x.load());
        tell(text, () -> x.wavelengthsNeeded());
    }

    /** Refused calls leave no trace, however many there are. */
    private static void refusedOverAndOver() {
        Opticmesh x = Mesh.with(2, 1, new int[][] {{0, 1, 5}});
        x.request(0, 1, 10, 0);
        for (int round = 0; round < 50; round++) {
            Check.fails("P10 no channel", Check.STATE, () -> x.request(0, 1, 1, 0));
            Check.fails("P11 no channel", Check.STATE, () -> x.newLength(0, 1, 1));
            Check.fails("P21 one light", Check.STATE, () -> x.merge());
            Check.fails("P22 wavelength 0", Check.STATE, () -> x.move());
            Check.fails("P6 not cut", Check.STATE, () -> x.repair(0));
            Check.fails("P12 no such request", Check.INDEX, () -> x.release(1));
            Check.fails("P16 no such light", Check.INDEX, () -> x.state(1));
            Check.fails("P3 no such node", Check.ARGUMENT, () -> x.addFibre(0, 2, 1));
        }
        Check.answers("P14 one request", 1, () -> x.requests());
        Check.answers("P15 one light", 1, () -> x.lights());
        Check.answers("P7 light 0", 0, () -> x.lightOn(0, 0));
        Check.answers("P3 fibre 1", 1, () -> x.addFibre(0, 1, 1));
        Check.answers("P10 request 1", 1, () -> x.request(0, 1, 1, 0));
        Check.answers("P13 light 1", 1, () -> x.lightOf(1));
    }
}
