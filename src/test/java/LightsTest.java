/** Promises 15 to 23: lights. */
public final class LightsTest {

    public static void main(String[] args) {
        lights();
        state();
        units();
        channels();
        channelsOutOfRange();
        channel();
        reroute();
        rerouteConversions();
        rerouteImpossible();
        merge();
        mergeOrder();
        mergeImpossible();
        move();
        moveSecondWay();
        moveOrder();
        moveImpossible();
        wavelengthsNeeded();
        wavelengthsNeededBeyondLoad();
        wavelengthsNeededCountsWayZero();
        Check.end("LightsTest");
    }

    private static void lights() {
        Opticmesh x = Mesh.with(2, 2, new int[][] {{0, 1, 5}});
        Check.answers("P15 none", 0, () -> x.lights());
        x.request(0, 1, 5, 0);
        x.request(0, 1, 5, 0);
        Check.answers("P15 one", 1, () -> x.lights());
        x.request(0, 1, 5, 0);
        Check.answers("P15 two", 2, () -> x.lights());
        x.release(2);
        Check.answers("P15 those that are gone too", 2, () -> x.lights());
        x.request(0, 1, 5, 0);
        Check.answers("P15 three", 3, () -> x.lights());
        x.begin(2, 2);
        Check.answers("P15 begin", 0, () -> x.lights());
    }

    private static void state() {
        Opticmesh x = Mesh.with(3, 2, new int[][] {{0, 1, 5}, {1, 2, 5}});
        x.request(0, 2, 5, 0);
        Check.answers("P16 up", 0, () -> x.state(0));
        x.cut(1);
        Check.answers("P16 down", 1, () -> x.state(0));
        x.repair(1);
        Check.answers("P16 up again", 0, () -> x.state(0));
        x.cut(0);
        x.release(0);
        Check.answers("P16 gone", 2, () -> x.state(0));
        int[] wrong = {-1, 1, 60, Integer.MIN_VALUE, Integer.MAX_VALUE};
        for (int light : wrong) {
            Check.fails("P16 state " + light, Check.INDEX, () -> x.state(light));
        }
    }

    private static void units() {
        Opticmesh x = Mesh.with(2, 2, new int[][] {{0, 1, 5}});
        x.request(0, 1, 1, 0);
        Check.answers("P17 1", 1, () -> x.units(0));
        x.request(1, 0, 9, 0);
        Check.answers("P17 10", 10, () -> x.units(0));
        x.cut(0);
        Check.answers("P17 a down light", 10, () -> x.units(0));
        x.release(0);
        Check.answers("P17 9", 9, () -> x.units(0));
        x.release(1);
        Check.answers("P17 gone", 0, () -> x.units(0));
        int[] wrong = {-1, 1, 60, Integer.MIN_VALUE, Integer.MAX_VALUE};
        for (int light : wrong) {
            Check.fails("P17 units " + light, Check.INDEX, () -> x.units(light));
        }
    }

    private static void channels() {
        Opticmesh x = Mesh.with(3, 2, new int[][] {{0, 1, 5}, {1, 2, 5}, {0, 2, 5}});
        x.request(0, 2, 5, 2);
        x.request(0, 1, 5, 0);
        Check.answers("P18 way 0", 1, () -> x.channels(0, 0));
        Check.answers("P18 way 1", 2, () -> x.channels(0, 1));
        Check.answers("P18 not protected", 1, () -> x.channels(1, 0));
        x.cut(0);
        Check.answers("P18 a cut way", 2, () -> x.channels(0, 1));
    }

    private static void channelsOutOfRange() {
        Opticmesh x = Mesh.with(2, 2, new int[][] {{0, 1, 5}, {0, 1, 5}});
        x.request(0, 1, 5, 2);
        x.request(0, 1, 5, 0);
        Check.fails("P18 way 2", Check.INDEX, () -> x.channels(0, 2));
        Check.fails("P18 way -1", Check.INDEX, () -> x.channels(0, -1));
        Check.fails("P18 way 1 of a light with one", Check.INDEX, () -> x.channels(1, 1));
        Check.fails("P18 light -1", Check.INDEX, () -> x.channels(-1, 0));
        Check.fails("P18 light 2", Check.INDEX, () -> x.channels(2, 0));
        Check.fails("P18 light of any number", Check.INDEX, () -> x.channels(Integer.MAX_VALUE, 0));
        Check.fails("P19 way 2", Check.INDEX, () -> x.channel(0, 2, 0));
        Check.fails("P19 way -1", Check.INDEX, () -> x.channel(0, -1, 0));
        Check.fails("P19 way 1 of a light with one", Check.INDEX, () -> x.channel(1, 1, 0));
        Check.fails("P19 light -1", Check.INDEX, () -> x.channel(-1, 0, 0));
        Check.fails("P19 light 2", Check.INDEX, () -> x.channel(2, 0, 0));
        x.release(0);
        Check.fails("P18 way 0 of a light that is gone", Check.INDEX, () -> x.channels(0, 0));
        Check.fails("P18 way 1 of a light that is gone", Check.INDEX, () -> x.channels(0, 1));
        Check.fails("P19 way 0 of a light that is gone", Check.INDEX, () -> x.channel(0, 0, 0));
        Check.fails("P19 way 1 of a light that is gone", Check.INDEX, () -> x.channel(0, 1, 0));
    }

    private static void channel() {
        Opticmesh x = Mesh.with(8, 8, new int[][] {{0, 1, 1}, {1, 2, 1}, {2, 3, 1}, {3, 4, 1}, {4, 5, 1}, {5, 6, 1},
            {6, 7, 1}, {0, 3, 900}, {3, 7, 900}});
        for (int light = 0; light < 7; light++) {
            x.request(0, 7, 10, 0);
        }
        x.request(0, 7, 10, 2);
        x.request(7, 3, 10, 1);
        for (int place = 0; place < 7; place++) {
            int at = place;
            Check.answers("P19 light 6, place " + place, 10 * place + 6, () -> x.channel(6, 0, at));
            Check.answers("P19 light 7, place " + place, 10 * place + 7, () -> x.channel(7, 0, at));
        }
        Check.answers("P19 way 1, place 0", 70, () -> x.channel(7, 1, 0));
        Check.answers("P19 way 1, place 1", 80, () -> x.channel(7, 1, 1));
        Check.answers("P19 from 7 to 3", 81, () -> x.channel(8, 0, 0));
        Check.fails("P19 place 7", Check.INDEX, () -> x.channel(7, 0, 7));
        Check.fails("P19 place 2 of way 1", Check.INDEX, () -> x.channel(7, 1, 2));
        Check.fails("P19 place -1", Check.INDEX, () -> x.channel(7, 0, -1));
        Check.fails("P19 place of any number", Check.INDEX, () -> x.channel(7, 0, Integer.MAX_VALUE));
        Check.fails("P19 place below any number", Check.INDEX, () -> x.channel(7, 0, Integer.MIN_VALUE));
    }

    private static void reroute() {
        Opticmesh x = Mesh.with(3, 1, new int[][] {{0, 1, 5}, {1, 2, 5}, {0, 2, 30}});
        x.request(2, 0, 4, 0);
        Check.answers("P20 its own channels count as free", 10, () -> x.reroute(0));
        Check.answers("P20 it is where it was", 10, () -> x.channel(0, 0, 0));
        x.cut(0);
        Check.answers("P20 a down light", 30, () -> x.reroute(0));
        Check.answers("P20 its new channel", 20, () -> x.channel(0, 0, 0));
        Check.answers("P20 one channel", 1, () -> x.channels(0, 0));
        Check.answers("P20 it is up", 0, () -> x.state(0));
        Check.answers("P20 its old channel is free", -1, () -> x.lightOn(1, 0));
        Check.answers("P20 its new one is not", 0, () -> x.lightOn(2, 0));
        Check.answers("P20 its units stay", 4, () -> x.units(0));
        Check.answers("P20 another one on the old channel", 1, () -> x.request(1, 2, 10, 0));
        x.repair(0);
        Check.answers("P20 others' channels are not free", 30, () -> x.reroute(0));
        x.release(1);
        Check.answers("P20 they are when the other is gone", 10, () -> x.reroute(0));
        Check.answers("P20 from the node named first", 10, () -> x.channel(0, 0, 0));
        Check.answers("P20 to the other one", 0, () -> x.channel(0, 0, 1));
    }

    private static void rerouteConversions() {
        Opticmesh x = Mesh.with(3, 2, new int[][] {{0, 1, 5}, {1, 2, 5}, {0, 2, 30}});
        x.request(0, 1, 10, 0);
        x.request(1, 2, 10, 0);
        x.request(1, 2, 10, 0);
        x.request(0, 2, 10, 1);
        Check.answers("P20 rule 1 found the direct fibre", 20, () -> x.channel(3, 0, 0));
        x.release(1);
        Check.answers("P20 no other way without conversion", 30, () -> x.reroute(3));
        x.toggleConverter(1);
        Check.answers("P20 a way may convert", 10, () -> x.reroute(3));
        Mesh.way("P20 the way that converts", x, 3, 0, 1, 10);
        Check.answers("P20 it stays there", 10, () -> x.reroute(3));
        Mesh.way("P20 the same way", x, 3, 0, 1, 10);
        x.release(0);
        Check.answers("P20 as long, with fewer conversions", 10, () -> x.reroute(3));
        Mesh.way("P20 the way without conversions", x, 3, 0, 0, 10);
    }

    private static void rerouteImpossible() {
        Opticmesh x = Mesh.with(2, 2, new int[][] {{0, 1, 5}, {0, 1, 6}});
        x.request(0, 1, 5, 2);
        x.request(0, 1, 5, 0);
        x.request(0, 1, 6, 0);
        Check.fails("P20 protected", Check.STATE, () -> x.reroute(0));
        Check.fails("P20 light -1", Check.INDEX, () -> x.reroute(-1));
        Check.fails("P20 light 3", Check.INDEX, () -> x.reroute(3));
        Check.fails("P20 light of any number", Check.INDEX, () -> x.reroute(Integer.MAX_VALUE));
        x.release(1);
        Check.fails("P20 gone", Check.STATE, () -> x.reroute(1));
        x.cut(0);
        x.cut(1);
        int where = x.channel(2, 0, 0);
        Check.fails("P20 no way", Check.STATE, () -> x.reroute(2));
        Check.answers("P20 the light keeps its way", where, () -> x.channel(2, 0, 0));
        Check.answers("P20 and its channel", 2, () -> x.lightOn(where / 10, where % 10));
    }

    private static void merge() {
        Opticmesh x = Mesh.with(3, 4, new int[][] {{0, 1, 5}, {1, 2, 5}});
        x.request(0, 2, 6, 0);
        x.request(2, 0, 6, 0);
        x.request(0, 2, 4, 0);
        x.request(0, 2, 4, 0);
        x.request(1, 2, 1, 0);
        Check.fails("P21 11 units and more", Check.STATE, () -> x.merge());
        x.release(0);
        Check.answers("P21 light 0 has 4", 4, () -> x.units(0));
        Check.answers("P21 light 1 has 10", 10, () -> x.units(1));
        Check.fails("P21 14 units", Check.STATE, () -> x.merge());
        x.release(3);
        Check.answers("P21 4 and 6 are 10", 1, () -> x.merge());
        Check.answers("P21 all units", 10, () -> x.units(0));
        Check.answers("P21 the other one is gone", 2, () -> x.state(1));
        Check.answers("P21 without units", 0, () -> x.units(1));
        Check.answers("P21 and its channels are free", -1, () -> x.lightOn(0, 1));
        Check.answers("P21 its request", 0, () -> x.lightOf(1));
        Check.answers("P21 the other request", 0, () -> x.lightOf(2));
        Check.answers("P21 another light's request", 2, () -> x.lightOf(4));
        Check.fails("P21 released ones stay released", Check.STATE, () -> x.lightOf(3));
        Check.answers("P12 a request that was taken over", 4, () -> x.release(1));
        Check.fails("P21 nothing left to merge", Check.STATE, () -> x.merge());
    }

    /** A network with a light for each number of units; the other requests that filled them are released. */
    private static Opticmesh lightsOf(int... units) {
        Opticmesh x = Mesh.with(2, 8, new int[][] {{0, 1, 5}});
        for (int carried : units) {
            x.request(0, 1, carried, 0);
            x.request(1, 0, 10 - carried, 0);
        }
        for (int light = 0; light < units.length; light++) {
            x.release(2 * light + 1);
        }
        return x;
    }

    private static void mergeOrder() {
        Opticmesh x = lightsOf(6, 7, 3, 4, 1);
        Check.answers("P21 light 0 and the lowest that fits", 2, () -> x.merge());
        Check.answers("P21 light 0 has both", 9, () -> x.units(0));
        Check.answers("P21 light 0 once more", 4, () -> x.merge());
        Check.answers("P21 light 0 has all three", 10, () -> x.units(0));
        Check.fails("P21 7 and 4 are too many", Check.STATE, () -> x.merge());
        Opticmesh y = lightsOf(9, 8, 3, 2);
        Check.answers("P21 the lowest lower number", 3, () -> y.merge());
        Check.answers("P21 light 1 has both", 10, () -> y.units(1));
        Check.answers("P21 light 2 stays", 3, () -> y.units(2));
        Opticmesh z = lightsOf(1, 1, 1, 1, 1, 1);
        for (int high = 1; high < 6; high++) {
            Check.answers("P21 one after another", high, () -> z.merge());
        }
        Check.answers("P21 light 0 has them all", 6, () -> z.units(0));
        for (int request = 0; request < 12; request += 2) {
            int asked = request;
            Check.answers("P21 request " + request, 0, () -> z.lightOf(asked));
        }
    }

    private static void mergeImpossible() {
        Opticmesh x = Mesh.with(3, 8, new int[][] {{0, 1, 5}, {1, 2, 5}, {0, 1, 7}});
        x.request(0, 1, 10, 0);
        x.request(0, 1, 1, 0);
        x.release(0);
        x.request(0, 1, 1, 2);
        x.request(1, 2, 1, 0);
        x.request(0, 2, 1, 0);
        Check.fails("P21 gone, protected, and other ends", Check.STATE, () -> x.merge());
        x.request(1, 0, 10, 2);
        x.release(2);
        x.request(1, 0, 1, 2);
        x.release(5);
        Check.fails("P21 none fits", Check.STATE, () -> x.merge());
        Opticmesh w = Mesh.with(2, 8, new int[][] {{0, 1, 5}, {0, 1, 7}});
        w.request(0, 1, 1, 2);
        w.request(0, 1, 1, 0);
        Check.fails("P21 the lower one is protected", Check.STATE, () -> w.merge());
        w.begin(2, 8);
        w.addFibre(0, 1, 5);
        w.addFibre(0, 1, 7);
        w.request(0, 1, 1, 0);
        w.request(0, 1, 1, 2);
        Check.fails("P21 the higher one is protected", Check.STATE, () -> w.merge());
        w.request(0, 1, 9, 2);
        w.request(0, 1, 1, 2);
        w.release(2);
        Check.fails("P21 two are protected", Check.STATE, () -> w.merge());
        Opticmesh y = Mesh.with(2, 8, new int[][] {{0, 1, 5}, {0, 1, 7}});
        y.request(0, 1, 2, 0);
        y.cut(0);
        y.request(0, 1, 2, 0);
        Check.fails("P21 light 0 is down", Check.STATE, () -> y.merge());
        y.repair(0);
        y.cut(1);
        Check.fails("P21 light 1 is down", Check.STATE, () -> y.merge());
        Check.answers("P21 nothing has changed", 1, () -> y.lightOf(1));
        y.repair(1);
        Check.answers("P21 both are up", 1, () -> y.merge());
        Opticmesh z = Mesh.with(2, 8, new int[][] {{0, 1, 5}, {0, 1, 7}});
        z.request(0, 1, 10, 2);
        z.request(0, 1, 10, 2);
        z.request(0, 1, 10, 0);
        z.request(0, 1, 10, 2);
        z.release(0);
        z.request(0, 1, 1, 2);
        z.release(1);
        z.request(0, 1, 10, 2);
        z.request(0, 1, 9, 2);
        Check.fails("P21 protected lights and one that is not", Check.STATE, () -> z.merge());
    }

    private static void move() {
        Opticmesh x = Mesh.with(3, 4, new int[][] {{0, 1, 5}, {1, 2, 5}});
        x.request(0, 1, 10, 0);
        x.request(1, 2, 10, 0);
        x.request(1, 2, 10, 0);
        x.request(0, 2, 10, 0);
        Check.answers("P22 light 3", 2, () -> x.channel(3, 0, 0));
        Check.fails("P22 no lower one is free on both", Check.STATE, () -> x.move());
        x.release(1);
        Check.answers("P22 light 2 goes first", 2, () -> x.move());
        Check.answers("P22 to wavelength 0", 10, () -> x.channel(2, 0, 0));
        Check.answers("P22 its old one is free", -1, () -> x.lightOn(1, 1));
        Check.answers("P22 light 3 then", 3, () -> x.move());
        Check.answers("P22 its first channel", 1, () -> x.channel(3, 0, 0));
        Check.answers("P22 its second channel", 11, () -> x.channel(3, 0, 1));
        Check.answers("P22 two channels", 2, () -> x.channels(3, 0));
        Check.answers("P22 the light is on it", 3, () -> x.lightOn(1, 1));
        Check.answers("P22 and not where it was", -1, () -> x.lightOn(0, 2));
        x.release(0);
        x.release(2);
        x.cut(0);
        Check.answers("P22 cut or not", 3, () -> x.move());
        Check.answers("P22 it stays down", 1, () -> x.state(3));
        Check.answers("P22 on wavelength 0", 3, () -> x.lightOn(0, 0));
        Check.fails("P22 it can't go lower", Check.STATE, () -> x.move());
    }

    private static void moveSecondWay() {
        Opticmesh x = Mesh.with(2, 4, new int[][] {{0, 1, 5}, {0, 1, 6}});
        x.request(0, 1, 10, 0);
        x.request(0, 1, 10, 0);
        x.request(0, 1, 10, 0);
        x.request(0, 1, 10, 2);
        Check.answers("P22 way 0 on wavelength 3", 3, () -> x.channel(3, 0, 0));
        Check.answers("P22 way 1 on wavelength 0", 10, () -> x.channel(3, 1, 0));
        x.request(0, 1, 10, 0);
        Check.answers("P22 light 4 beside it", 11, () -> x.channel(4, 0, 0));
        x.cut(0);
        x.request(0, 1, 10, 0);
        x.release(3);
        x.repair(0);
        x.request(0, 1, 10, 2);
        Check.answers("P22 light 6, way 0", 3, () -> x.channel(6, 0, 0));
        Check.answers("P22 light 6, way 1", 10, () -> x.channel(6, 1, 0));
        x.release(0);
        x.release(1);
        Check.answers("P22 light 2 goes first", 2, () -> x.move());
        Check.answers("P22 to the lowest", 0, () -> x.channel(2, 0, 0));
        Check.answers("P22 light 6 then, way 0", 6, () -> x.move());
        Check.answers("P22 where it is", 1, () -> x.channel(6, 0, 0));
        Check.answers("P22 way 1 stays", 10, () -> x.channel(6, 1, 0));
        x.request(0, 1, 10, 2);
        Check.answers("P22 light 7, way 0", 2, () -> x.channel(7, 0, 0));
        Check.answers("P22 light 7, way 1", 13, () -> x.channel(7, 1, 0));
        x.release(5);
        Check.answers("P22 light 7, way 1 alone", 7, () -> x.move());
        Check.answers("P22 it went down", 12, () -> x.channel(7, 1, 0));
        Check.answers("P22 way 0 stays", 2, () -> x.channel(7, 0, 0));
    }

    private static void moveOrder() {
        Opticmesh y = Mesh.with(2, 8, new int[][] {{0, 1, 5}, {0, 1, 6}});
        y.request(0, 1, 10, 0);
        y.cut(0);
        y.request(0, 1, 10, 0);
        y.reroute(0);
        y.request(0, 1, 10, 0);
        y.release(1);
        Check.answers("P22 light 0 goes first", 0, () -> y.move());
        Mesh.way("P22 to wavelength 0", y, 0, 0, 10);
        Check.answers("P22 light 2 then", 2, () -> y.move());
        Mesh.way("P22 to wavelength 1", y, 2, 0, 11);
        Check.fails("P22 all are as low as can be", Check.STATE, () -> y.move());
        Opticmesh x = Mesh.with(2, 8, new int[][] {{0, 1, 5}, {0, 1, 6}});
        x.request(0, 1, 10, 0);
        x.request(0, 1, 10, 2);
        x.cut(0);
        x.request(0, 1, 10, 0);
        x.repair(0);
        x.release(0);
        x.release(2);
        x.request(0, 1, 10, 0);
        x.request(0, 1, 10, 2);
        Check.answers("P22 light 4, way 0", 2, () -> x.channel(4, 0, 0));
        Check.answers("P22 light 4, way 1", 11, () -> x.channel(4, 1, 0));
        x.release(3);
        x.release(1);
        Check.answers("P22 light 4 moves way 0", 4, () -> x.move());
        Check.answers("P22 to the lowest one", 0, () -> x.channel(4, 0, 0));
        Check.answers("P22 way 1 has to wait", 11, () -> x.channel(4, 1, 0));
        Check.answers("P22 way 1 then", 4, () -> x.move());
        Check.answers("P22 to the lowest one too", 10, () -> x.channel(4, 1, 0));
        Check.fails("P22 no more", Check.STATE, () -> x.move());
    }

    private static void moveImpossible() {
        Opticmesh none = new Opticmesh();
        Check.fails("P22 no lights", Check.STATE, () -> none.move());
        Opticmesh x = Mesh.with(3, 3, new int[][] {{0, 1, 5}, {1, 2, 5}});
        x.toggleConverter(1);
        for (int light = 0; light < 6; light++) {
            int from = light / 3;
            x.request(from, from + 1, 10, 0);
        }
        x.release(2);
        x.release(4);
        x.request(0, 2, 10, 0);
        Mesh.way("P22 a way with a conversion", x, 6, 0, 2, 11);
        x.release(0);
        x.release(1);
        x.release(3);
        x.release(5);
        Check.fails("P22 it can't be moved", Check.STATE, () -> x.move());
        Mesh.way("P22 it is where it was", x, 6, 0, 2, 11);
        x.request(0, 1, 10, 0);
        x.request(0, 1, 10, 0);
        x.release(7);
        x.release(8);
        x.request(0, 2, 10, 0);
        Mesh.way("P22 a way on the lowest wavelength", x, 9, 0, 0, 10);
        Check.fails("P22 nor can that one", Check.STATE, () -> x.move());
        x.release(6);
        x.request(0, 2, 10, 0);
        x.release(9);
        x.release(10);
        Check.fails("P22 they are gone", Check.STATE, () -> x.move());
        Opticmesh y = Mesh.with(3, 3, new int[][] {{0, 1, 5}, {1, 2, 5}});
        y.request(0, 1, 10, 0);
        y.request(0, 2, 10, 0);
        Check.fails("P22 wavelength 0 is not free on fibre 0", Check.STATE, () -> y.move());
        y.request(2, 1, 10, 0);
        Check.fails("P22 lights on wavelength 0", Check.STATE, () -> y.move());
        y.release(0);
        Check.fails("P22 wavelength 0 is not free on fibre 1", Check.STATE, () -> y.move());
        y.release(2);
        Check.answers("P22 wavelength 0 is free", 1, () -> y.move());
    }

    private static void wavelengthsNeeded() {
        Opticmesh x = Mesh.with(4, 2, new int[][] {{0, 1, 5}, {1, 2, 5}, {2, 3, 5}});
        Check.answers("P23 without lights", 0, () -> x.wavelengthsNeeded());
        x.request(0, 1, 10, 0);
        Check.answers("P23 one light", 1, () -> x.wavelengthsNeeded());
        x.request(1, 2, 10, 0);
        Check.answers("P23 two apart", 1, () -> x.wavelengthsNeeded());
        x.request(0, 2, 10, 0);
        Check.answers("P23 one over both", 2, () -> x.wavelengthsNeeded());
        x.cut(0);
        Check.answers("P23 down lights count", 2, () -> x.wavelengthsNeeded());
        x.release(0);
        x.release(1);
        Check.answers("P23 lights that are gone don't", 1, () -> x.wavelengthsNeeded());
        x.release(2);
        Check.answers("P23 all are gone", 0, () -> x.wavelengthsNeeded());
    }

    private static void wavelengthsNeededBeyondLoad() {
        // Three lights that share a fibre two by two, each fibre carrying two of them.
        Opticmesh x = Mesh.with(4, 2, new int[][] {{0, 1, 1}, {0, 2, 1}, {0, 3, 1}});
        x.toggleConverter(0);
        x.request(1, 2, 10, 0);
        x.request(2, 3, 10, 0);
        x.request(3, 1, 10, 0);
        Check.answers("P23 a load of 2", 2, () -> x.load());
        Check.answers("P23 but three wavelengths, more than there are", 3, () -> x.wavelengthsNeeded());
        Opticmesh y = Mesh.with(2, 8, new int[][] {{0, 1, 1}, {0, 1, 1}});
        for (int light = 0; light < 12; light++) {
            y.request(0, 1, 10, 0);
        }
        Check.answers("P23 eight on one fibre", 8, () -> y.wavelengthsNeeded());
        // A ring of five: each light goes over two fibres of five.
        Opticmesh z = Mesh.with(5, 8, new int[][] {{0, 1, 1}, {1, 2, 1}, {2, 3, 1}, {3, 4, 1}, {4, 0, 1}});
        for (int round = 0; round < 2; round++) {
            for (int node = 0; node < 5; node++) {
                z.request(node, (node + 2) % 5, 10, 1);
            }
        }
        Check.answers("P23 a ring's load", 4, () -> z.load());
        Check.answers("P23 a ring needs one more", 5, () -> z.wavelengthsNeeded());
    }

    private static void wavelengthsNeededCountsWayZero() {
        Opticmesh x = Mesh.with(2, 4, new int[][] {{0, 1, 1}, {0, 1, 2}});
        x.request(0, 1, 10, 2);
        x.cut(0);
        x.request(0, 1, 10, 0);
        x.request(0, 1, 10, 0);
        Check.answers("P23 second ways don't count", 2, () -> x.wavelengthsNeeded());
        x.release(1);
        x.release(2);
        Check.answers("P23 way 0 alone", 1, () -> x.wavelengthsNeeded());
    }
}
