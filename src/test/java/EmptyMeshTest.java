/** The cases without fibres, without lights, and with lights that are gone, for every call. */
public final class EmptyMeshTest {

    public static void main(String[] args) {
        withoutFibres("P1 a new object", new Opticmesh(), 4, 4);
        withoutFibres("P2 two nodes, one wavelength", begun(new Opticmesh(), 2, 1), 2, 1);
        withoutFibres("P2 eight nodes, eight wavelengths", begun(new Opticmesh(), 8, 8), 8, 8);
        withoutFibres("P2 after another network", begun(withAGoneLight(), 4, 3), 4, 3);
        withoutFibres("P2 after begin twice", begun(begun(fullOfLights(), 8, 8), 5, 2), 5, 2);
        withoutLights("P3 fibres alone", Mesh.with(3, 2, new int[][] {{0, 1, 5}, {1, 2, 6}, {0, 2, 20}}));
        withoutLights("P6 fibres cut and repaired", cutAndRepaired());
        withoutLights("P2 begin after lights", anewAfterLights());
        nodesWithoutFibres();
        allFibresCut();
        oneGoneLight();
        allLightsGone();
        goneByMerge();
        lightsFromBeforeBegin();
        goneLightsComeNotBack();
        goneLightOfAProtectedPair();
        Check.end("EmptyMeshTest");
    }

    private static Opticmesh begun(Opticmesh x, int nodes, int wavelengths) {
        x.begin(nodes, wavelengths);
        return x;
    }

    private static int toggle(Opticmesh x, int node) {
        return x.toggleConverter(node) ? 1 : 0;
    }

    private static Opticmesh fullOfLights() {
        Opticmesh x = Mesh.with(2, 8, new int[][] {{0, 1, 5}, {0, 1, 6}});
        for (int light = 0; light < 12; light++) {
            x.request(0, 1, 10, 0);
        }
        x.toggleConverter(1);
        x.cut(0);
        return x;
    }

    private static Opticmesh withAGoneLight() {
        Opticmesh x = Mesh.with(3, 2, new int[][] {{0, 1, 5}, {1, 2, 6}, {0, 2, 20}});
        x.toggleConverter(0);
        x.toggleConverter(1);
        x.request(0, 2, 4, 0);
        x.release(0);
        x.cut(2);
        return x;
    }

    private static Opticmesh cutAndRepaired() {
        Opticmesh x = Mesh.with(3, 2, new int[][] {{0, 1, 5}, {1, 2, 6}, {0, 2, 20}});
        for (int fibre = 0; fibre < 3; fibre++) {
            x.cut(fibre);
        }
        for (int fibre = 0; fibre < 3; fibre++) {
            x.repair(fibre);
        }
        return x;
    }

    private static Opticmesh anewAfterLights() {
        Opticmesh x = fullOfLights();
        x.begin(3, 2);
        x.addFibre(0, 1, 5);
        x.addFibre(1, 2, 6);
        x.addFibre(0, 2, 20);
        return x;
    }

    private static void noLights(String what, Opticmesh x) {
        Check.answers(what + ": requests", 0, () -> x.requests());
        Check.answers(what + ": lights", 0, () -> x.lights());
        Check.answers(what + ": load", 0, () -> x.load());
        Check.answers(what + ": wavelengthsNeeded", 0, () -> x.wavelengthsNeeded());
        Check.fails(what + ": release", Check.INDEX, () -> x.release(0));
        Check.fails(what + ": lightOf", Check.INDEX, () -> x.lightOf(0));
        Check.fails(what + ": state", Check.INDEX, () -> x.state(0));
        Check.fails(what + ": units", Check.INDEX, () -> x.units(0));
        Check.fails(what + ": channels", Check.INDEX, () -> x.channels(0, 0));
        Check.fails(what + ": channels of way 1", Check.INDEX, () -> x.channels(0, 1));
        Check.fails(what + ": channel", Check.INDEX, () -> x.channel(0, 0, 0));
        Check.fails(what + ": reroute", Check.INDEX, () -> x.reroute(0));
        Check.fails(what + ": merge", Check.STATE, () -> x.merge());
        Check.fails(what + ": move", Check.STATE, () -> x.move());
    }

    private static void withoutFibres(String what, Opticmesh x, int nodes, int wavelengths) {
        noLights(what, x);
        int last = nodes - 1;
        Check.fails(what + ": usage", Check.STATE, () -> (int) x.usage());
        Check.fails(what + ": cut", Check.INDEX, () -> x.cut(0));
        Check.fails(what + ": repair", Check.INDEX, () -> x.repair(0));
        Check.fails(what + ": lightOn", Check.INDEX, () -> x.lightOn(0, 0));
        Check.fails(what + ": lightOn without wavelength", Check.INDEX, () -> x.lightOn(0, wavelengths));
        for (int rule = 0; rule <= 2; rule++) {
            int asked = rule;
            Check.fails(what + ": request by rule " + rule, Check.STATE, () -> x.request(0, last, 1, asked));
            Check.fails(what + ": newLength by rule " + rule, Check.STATE, () -> x.newLength(last, 0, asked));
        }
        noLights(what + " after refused requests", x);
        for (int node = 0; node < nodes; node++) {
            int asked = node;
            Check.answers(what + ": node " + node + " can't convert", 1, () -> toggle(x, asked));
            Check.answers(what + ": node " + node + " can convert", 0, () -> toggle(x, asked));
        }
        Check.answers(what + ": the first fibre", 0, () -> x.addFibre(0, last, 9));
        Check.answers(what + ": it is not cut", 9, () -> x.newLength(0, last, 0));
        Check.answers(what + ": its last channel is free", -1, () -> x.lightOn(0, wavelengths - 1));
        Check.same(what + ": usage with a fibre", 0f, x.usage());
        Check.answers(what + ": the first request", 0, () -> x.request(last, 0, 1, 0));
        Check.answers(what + ": the first light", 0, () -> x.lightOf(0));
        Check.same(what + ": usage with a light", 1f / (float) wavelengths, x.usage());
    }

    /** For a network of three nodes and two wavelengths: 5 from 0 to 1, 6 from 1 to 2, 20 from 0 to 2. */
    private static void withoutLights(String what, Opticmesh x) {
        noLights(what, x);
        Check.same(what + ": usage", 0f, x.usage());
        for (int fibre = 0; fibre < 3; fibre++) {
            int asked = fibre;
            Check.answers(what + ": wavelength 0 of " + fibre, -1, () -> x.lightOn(asked, 0));
            Check.answers(what + ": wavelength 1 of " + fibre, -1, () -> x.lightOn(asked, 1));
            Check.answers(what + ": cut " + fibre, 0, () -> x.cut(asked));
            Check.answers(what + ": lightOn of the cut " + fibre, -1, () -> x.lightOn(asked, 0));
            Check.answers(what + ": repair " + fibre, 0, () -> x.repair(asked));
        }
        Check.answers(what + ": newLength by rule 0", 11, () -> x.newLength(0, 2, 0));
        Check.answers(what + ": newLength by rule 1", 11, () -> x.newLength(2, 0, 1));
        Check.answers(what + ": newLength by rule 2", 31, () -> x.newLength(0, 2, 2));
        noLights(what + " after newLength", x);
        Check.same(what + ": usage after newLength", 0f, x.usage());
        Check.answers(what + ": the fourth fibre", 3, () -> x.addFibre(0, 1, 1));
    }

    private static void nodesWithoutFibres() {
        Opticmesh x = Mesh.with(4, 8, new int[][] {{0, 1, 5}, {0, 1, 5}, {2, 3, 5}, {2, 3, 5}});
        x.toggleConverter(1);
        x.toggleConverter(2);
        for (int rule = 0; rule <= 2; rule++) {
            int asked = rule;
            Check.fails("P10 two parts, rule " + rule, Check.STATE, () -> x.request(0, 3, 1, asked));
            Check.fails("P11 two parts, rule " + rule, Check.STATE, () -> x.newLength(3, 0, asked));
        }
        Check.answers("P10 within a part", 0, () -> x.request(2, 3, 1, 2));
        Check.answers("P10 within the other part", 1, () -> x.request(1, 0, 1, 0));
        x.addFibre(1, 2, 7);
        Check.answers("P11 one part", 17, () -> x.newLength(0, 3, 0));
        Check.fails("P11 one fibre between the parts makes no pair", Check.STATE, () -> x.newLength(0, 3, 2));
    }

    private static void allFibresCut() {
        Opticmesh x = Mesh.with(2, 2, new int[][] {{0, 1, 5}, {0, 1, 6}});
        x.request(0, 1, 1, 2);
        x.request(0, 1, 2, 0);
        Check.answers("P5 the first fibre", 1, () -> x.cut(0));
        Check.answers("P5 the last fibre", 1, () -> x.cut(1));
        for (int rule = 0; rule <= 2; rule++) {
            int asked = rule;
            Check.fails("P10 all cut, rule " + rule, Check.STATE, () -> x.request(0, 1, 1, asked));
            Check.fails("P11 all cut, rule " + rule, Check.STATE, () -> x.newLength(0, 1, asked));
        }
        Check.same("P9 all cut", 3f / 4f, x.usage());
        Check.answers("P8 all cut", 2, () -> x.load());
        Check.answers("P23 all cut", 2, () -> x.wavelengthsNeeded());
        Check.answers("P18 all cut", 1, () -> x.channels(0, 1));
        Check.answers("P19 all cut", 1, () -> x.channel(1, 0, 0));
        Check.answers("P13 all cut", 1, () -> x.lightOf(1));
        Check.answers("P17 all cut", 2, () -> x.units(1));
        Check.fails("P20 all cut", Check.STATE, () -> x.reroute(1));
        Check.fails("P21 all cut", Check.STATE, () -> x.merge());
        Check.fails("P22 all cut, wavelength 0 is used", Check.STATE, () -> x.move());
        Check.answers("P12 all cut", 0, () -> x.release(0));
        Check.answers("P22 all cut, wavelength 0 is free", 1, () -> x.move());
        Check.answers("P3 a new fibre is not cut", 2, () -> x.addFibre(0, 1, 7));
        Check.answers("P11 over the new fibre", 7, () -> x.newLength(0, 1, 0));
    }

    private static void gone(String what, Opticmesh x, int light) {
        Check.answers(what + ": state", 2, () -> x.state(light));
        Check.answers(what + ": units", 0, () -> x.units(light));
        Check.fails(what + ": channels of way 0", Check.INDEX, () -> x.channels(light, 0));
        Check.fails(what + ": channels of way 1", Check.INDEX, () -> x.channels(light, 1));
        Check.fails(what + ": channel of way 0", Check.INDEX, () -> x.channel(light, 0, 0));
        Check.fails(what + ": channel of way 1", Check.INDEX, () -> x.channel(light, 1, 0));
        Check.fails(what + ": reroute", Check.STATE, () -> x.reroute(light));
    }

    private static void oneGoneLight() {
        Opticmesh x = Mesh.with(3, 2, new int[][] {{0, 1, 5}, {1, 2, 6}});
        x.request(0, 2, 3, 0);
        x.release(0);
        gone("P12 one gone light", x, 0);
        Check.answers("P15 it counts", 1, () -> x.lights());
        Check.answers("P14 its request counts", 1, () -> x.requests());
        Check.fails("P13 its request exists", Check.STATE, () -> x.lightOf(0));
        Check.fails("P12 and can't be released again", Check.STATE, () -> x.release(0));
        Check.answers("P8 it uses no channel", 0, () -> x.load());
        Check.same("P9 none at all", 0f, x.usage());
        Check.answers("P23 it needs no wavelength", 0, () -> x.wavelengthsNeeded());
        Check.fails("P21 it can't be merged", Check.STATE, () -> x.merge());
        Check.fails("P22 it can't be moved", Check.STATE, () -> x.move());
        Check.answers("P5 it doesn't go down", 0, () -> x.cut(1));
        gone("P5 over a cut fibre", x, 0);
        Check.answers("P6 it doesn't come up", 0, () -> x.repair(1));
        gone("P6 over a repaired fibre", x, 0);
        Check.answers("P10 it takes no request", 1, () -> x.request(0, 2, 3, 0));
        Check.answers("P10 the new light does", 1, () -> x.lightOf(1));
        Check.answers("P10 on the channels that were freed", 0, () -> x.channel(1, 0, 0));
        gone("P10 beside a new light", x, 0);
    }

    private static void allLightsGone() {
        Opticmesh x = fullOfLights();
        for (int light = 0; light < 12; light++) {
            int asked = light;
            Check.answers("P12 release " + light, 0, () -> x.release(asked));
        }
        for (int light = 0; light < 12; light++) {
            gone("P12 all twelve are gone, light " + light, x, light);
        }
        for (int fibre = 0; fibre < 2; fibre++) {
            for (int wavelength = 0; wavelength < 8; wavelength++) {
                int asked = fibre;
                int channel = wavelength;
                Check.answers("P7 channel " + channel + " of " + fibre, -1, () -> x.lightOn(asked, channel));
            }
        }
        Check.same("P9 no channel is used", 0f, x.usage());
        Check.answers("P8 no load", 0, () -> x.load());
        Check.answers("P23 no wavelength", 0, () -> x.wavelengthsNeeded());
        Check.fails("P21 none to merge", Check.STATE, () -> x.merge());
        Check.fails("P22 none to move", Check.STATE, () -> x.move());
        Check.answers("P15 twelve were made", 12, () -> x.lights());
        Check.answers("P6 none comes up", 0, () -> x.repair(0));
        Check.answers("P10 a thirteenth can be made", 12, () -> x.request(1, 0, 10, 0));
        Check.answers("P13 it is light 12", 12, () -> x.lightOf(12));
        Check.answers("P19 on the first channel", 0, () -> x.channel(12, 0, 0));
    }

    private static void goneByMerge() {
        Opticmesh x = Mesh.with(2, 2, new int[][] {{0, 1, 5}});
        x.request(0, 1, 6, 0);
        x.request(0, 1, 7, 0);
        x.request(0, 1, 3, 0);
        x.release(0);
        Check.answers("P21 merge", 1, () -> x.merge());
        gone("P21 the higher one", x, 1);
        Check.fails("P21 it can't be merged again", Check.STATE, () -> x.merge());
        Check.answers("P7 its channel is free", -1, () -> x.lightOn(0, 1));
        Check.answers("P8 one is used", 1, () -> x.load());
        Check.answers("P23 one is needed", 1, () -> x.wavelengthsNeeded());
        Check.answers("P15 two were made", 2, () -> x.lights());
        Check.answers("P5 one goes down", 1, () -> x.cut(0));
        Check.answers("P6 one comes up", 1, () -> x.repair(0));
        Check.answers("P10 a request that has no room", 3, () -> x.request(0, 1, 1, 0));
        Check.answers("P10 gets a light with a new number", 2, () -> x.lightOf(3));
        gone("P10 the gone one's number is not used again", x, 1);
        Check.answers("P19 but its channel is", 1, () -> x.channel(2, 0, 0));
        Check.answers("P12 one of two that light 0 carries", 3, () -> x.release(1));
        Check.answers("P12 the other one", 0, () -> x.release(2));
        gone("P12 the lower one too", x, 0);
    }

    /** Lights 1 and 2 from before begin have room, could be merged and moved: but they are no more. */
    private static void lightsFromBeforeBegin() {
        Opticmesh x = Mesh.with(2, 4, new int[][] {{0, 1, 5}});
        x.request(0, 1, 10, 0);
        x.request(0, 1, 9, 0);
        x.request(0, 1, 8, 0);
        x.begin(2, 4);
        x.addFibre(0, 1, 5);
        x.request(0, 1, 1, 0);
        Check.fails("P21 the new light alone", Check.STATE, () -> x.merge());
        Check.fails("P22 the new light alone", Check.STATE, () -> x.move());
        Check.answers("P8 the new light alone", 1, () -> x.load());
        Check.answers("P23 the new light alone", 1, () -> x.wavelengthsNeeded());
        Check.answers("P7 wavelength 1 is free", -1, () -> x.lightOn(0, 1));
        Check.answers("P5 the new light goes down", 1, () -> x.cut(0));
        Check.answers("P6 the new light comes up", 1, () -> x.repair(0));
        Check.answers("P10 9 more", 1, () -> x.request(0, 1, 9, 0));
        Check.answers("P10 and 1 more", 2, () -> x.request(0, 1, 1, 0));
        Check.answers("P15 for that a second light was made", 2, () -> x.lights());
        Check.answers("P17 with its own unit alone", 1, () -> x.units(1));
        x.release(0);
        x.release(1);
        Check.answers("P22 it moves to wavelength 0", 1, () -> x.move());
        Check.fails("P22 no other one does", Check.STATE, () -> x.move());
        Check.answers("P12 it goes", 0, () -> x.release(2));
        Check.fails("P22 none is left", Check.STATE, () -> x.move());
        Check.answers("P9 no channel is used", 0, () -> Float.floatToIntBits(x.usage()));
    }

    private static void goneLightsComeNotBack() {
        Opticmesh x = Mesh.with(2, 3, new int[][] {{0, 1, 5}});
        x.request(0, 1, 10, 0);
        x.request(0, 1, 10, 0);
        x.request(0, 1, 10, 0);
        x.release(1);
        x.release(0);
        Check.answers("P22 light 2 moves past lights that are gone", 2, () -> x.move());
        Check.answers("P22 to the lowest", 0, () -> x.channel(2, 0, 0));
        gone("P22 light 0", x, 0);
        gone("P22 light 1", x, 1);
        Check.fails("P22 no other light", Check.STATE, () -> x.move());
        Check.answers("P20 reroute light 2", 5, () -> x.reroute(2));
        gone("P20 light 0", x, 0);
        gone("P20 light 1", x, 1);
        Check.answers("P15 three were made", 3, () -> x.lights());
    }

    private static void goneLightOfAProtectedPair() {
        Opticmesh x = Mesh.with(2, 2, new int[][] {{0, 1, 5}, {0, 1, 6}});
        x.request(0, 1, 4, 2);
        x.request(0, 1, 6, 2);
        Check.answers("P12 its first request", 6, () -> x.release(0));
        Check.answers("P12 it is up still", 0, () -> x.state(0));
        Check.answers("P12 way 1 is there still", 10, () -> x.channel(0, 1, 0));
        Check.answers("P12 its last request", 0, () -> x.release(1));
        gone("P12 a protected light", x, 0);
        Check.answers("P7 way 0 is free", -1, () -> x.lightOn(0, 0));
        Check.answers("P7 way 1 is free", -1, () -> x.lightOn(1, 0));
        Check.answers("P11 a pair could be had", 11, () -> x.newLength(0, 1, 2));
        Check.answers("P10 and is", 2, () -> x.request(1, 0, 10, 2));
        Check.answers("P10 by a new light", 1, () -> x.lightOf(2));
    }
}
