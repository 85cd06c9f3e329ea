/** The limits that the document names, reached and passed: 14 fibres, 12 lights, 60 requests, 10 units, 512 calls. */
public final class FullMeshTest {

    public static void main(String[] args) {
        fourteenFibres();
        fibresBesideLights();
        fourteenFibresAfterBegin();
        twelveLightsByEachRule();
        twelveLightsAreNotGone();
        aPlaceByMerge();
        aPlaceByBegin();
        roomIsAskedBeforeThePlace();
        othersWorkAmongTwelve();
        sixtyRequestsByEachWay();
        refusedRequestsAreNone();
        sixtyRequestsAfterBegin();
        othersWorkAfterSixty();
        sixtyLights();
        tenUnitsByEveryPair();
        tenUnitsOfOnes();
        roomComesBack();
        allLimitsAtOnce();
        everyChannelUsed();
        highestChannels();
        moreNeededThanThereAre();
        theLastCall();
        Check.end("FullMeshTest");
    }

    private static Opticmesh twelve(int... lengths) {
        Opticmesh x = new Opticmesh();
        x.begin(2, 8);
        for (int length : lengths) {
            x.addFibre(0, 1, length);
        }
        for (int light = 0; light < 12; light++) {
            x.request(0, 1, 10, 0);
        }
        return x;
    }

    private static Opticmesh sixty(int demand) {
        Opticmesh x = Mesh.with(2, 8, new int[][] {{0, 1, 5}, {0, 1, 6}});
        for (int count = 0; count < 60; count++) {
            x.request(0, 1, demand, 0);
        }
        return x;
    }

    private static void fourteenFibres() {
        Opticmesh x = new Opticmesh();
        x.begin(8, 8);
        for (int fibre = 0; fibre < 14; fibre++) {
            int one = fibre % 8;
            int other = (fibre + 1) % 8;
            Check.answers("P3 fibre " + fibre, fibre, () -> x.addFibre(one, other, 1000));
        }
        Check.fails("P3 a fifteenth", Check.STATE, () -> x.addFibre(0, 1, 1));
        Check.fails("P3 a fifteenth once more", Check.STATE, () -> x.addFibre(7, 6, 1000));
        Check.answers("P5 the last one is cut", 0, () -> x.cut(13));
        Check.fails("P3 a cut one makes no place", Check.STATE, () -> x.addFibre(0, 1, 1));
        Check.answers("P6 and repaired", 0, () -> x.repair(13));
        Check.fails("P5 no fibre 14", Check.INDEX, () -> x.cut(14));
        Check.fails("P6 no fibre 14", Check.INDEX, () -> x.repair(14));
        Check.fails("P7 no fibre 14", Check.INDEX, () -> x.lightOn(14, 0));
        Check.same("P9 none of 112", 0f, x.usage());
        Check.answers("P10 over the last one", 0, () -> x.request(5, 6, 10, 2));
        Check.answers("P19 way 0", 50, () -> x.channel(0, 0, 0));
        Check.answers("P19 way 1", 130, () -> x.channel(0, 1, 0));
        Check.same("P9 two of 112", 2f / 112f, x.usage());
    }

    private static void fibresBesideLights() {
        Opticmesh x = Mesh.with(3, 1, new int[][] {{0, 1, 5}});
        x.request(0, 1, 10, 0);
        x.cut(0);
        Check.answers("P3 a fibre beside a light", 1, () -> x.addFibre(1, 0, 4));
        Check.answers("P7 it is free", -1, () -> x.lightOn(1, 0));
        Check.answers("P4 the light stays down", 1, () -> x.state(0));
        Check.answers("P11 it can be used at once", 4, () -> x.newLength(0, 1, 1));
        Check.same("P9 one of two", 0.5f, x.usage());
        Check.answers("P20 by the light too", 4, () -> x.reroute(0));
        Check.answers("P7 fibre 0 is free", -1, () -> x.lightOn(0, 0));
        Check.answers("P7 fibre 1 is not", 0, () -> x.lightOn(1, 0));
    }

    private static void fourteenFibresAfterBegin() {
        Opticmesh x = new Opticmesh();
        for (int round = 0; round < 3; round++) {
            x.begin(2, 1);
            for (int fibre = 0; fibre < 14; fibre++) {
                int length = 100 - fibre - round;
                Check.answers("P3 fibre " + fibre, fibre, () -> x.addFibre(1, 0, length));
            }
            int shortest = 87 - round;
            Check.fails("P3 a fifteenth", Check.STATE, () -> x.addFibre(0, 1, 1));
            Check.answers("P11 the fourteenth is the shortest", shortest, () -> x.newLength(0, 1, 0));
            Check.answers("P5 it can be cut", 0, () -> x.cut(13));
            Check.answers("P11 the thirteenth then", shortest + 1, () -> x.newLength(0, 1, 0));
        }
    }

    private static void twelveLightsByEachRule() {
        for (int rule = 0; rule <= 2; rule++) {
            int asked = rule;
            Opticmesh x = new Opticmesh();
            x.begin(2, 8);
            for (int fibre = 0; fibre < 4; fibre++) {
                x.addFibre(0, 1, 5);
            }
            for (int light = 0; light < 12; light++) {
                Check.answers("P10 rule " + rule + ", light " + light, light, () -> x.request(0, 1, 10, asked));
            }
            for (int other = 0; other <= 2; other++) {
                int next = other;
                Check.fails("P10 a thirteenth by rule " + other, Check.STATE, () -> x.request(0, 1, 1, next));
                Check.answers("P11 newLength by rule " + other, other == 2 ? 10 : 5, () -> x.newLength(0, 1, next));
            }
            Check.answers("P15 twelve", 12, () -> x.lights());
            Check.answers("P14 twelve", 12, () -> x.requests());
            Check.answers("P12 one is released", 0, () -> x.release(11));
            Check.answers("P10 one more", 12, () -> x.request(1, 0, 1, asked));
            Check.answers("P13 by light 12", 12, () -> x.lightOf(12));
            Check.fails("P10 twelve again", Check.STATE, () -> x.request(0, 1, 10, asked));
        }
    }

    private static void twelveLightsAreNotGone() {
        Opticmesh x = twelve(5, 6);
        x.cut(0);
        x.cut(1);
        x.addFibre(0, 1, 7);
        Check.fails("P10 twelve that are down", Check.STATE, () -> x.request(0, 1, 1, 0));
        Check.answers("P11 a way there is", 7, () -> x.newLength(0, 1, 0));
        Check.answers("P12 one is gone", 0, () -> x.release(7));
        Check.answers("P10 eleven and a new one", 12, () -> x.request(0, 1, 1, 0));
        Check.answers("P19 on the new fibre", 20, () -> x.channel(12, 0, 0));
        Check.fails("P10 twelve again", Check.STATE, () -> x.request(0, 1, 10, 0));
        Check.answers("P12 one with a number below is gone", 0, () -> x.release(0));
        Check.answers("P12 and another one", 0, () -> x.release(11));
        Check.answers("P10 two places, the first", 13, () -> x.request(0, 1, 10, 0));
        Check.answers("P10 two places, the second", 14, () -> x.request(0, 1, 10, 0));
        Check.fails("P10 no third", Check.STATE, () -> x.request(0, 1, 10, 0));
        Check.answers("P15 fifteen in all", 15, () -> x.lights());
    }

    private static void aPlaceByMerge() {
        Opticmesh x = Mesh.with(2, 8, new int[][] {{0, 1, 5}, {0, 1, 6}});
        for (int light = 0; light < 12; light++) {
            x.request(0, 1, 10 - light % 2 * 4, 0);
        }
        Check.fails("P21 10 and 6, or 6 and 6", Check.STATE, () -> x.merge());
        Check.fails("P10 a thirteenth", Check.STATE, () -> x.request(0, 1, 7, 0));
        Check.answers("P10 4 have room in light 1", 12, () -> x.request(0, 1, 4, 0));
        Check.answers("P12 light 1 without its 6", 4, () -> x.release(1));
        Check.answers("P21 light 3 goes", 3, () -> x.merge());
        Check.answers("P10 in its place a new one", 13, () -> x.request(0, 1, 7, 0));
        Check.answers("P13 by light 12", 12, () -> x.lightOf(13));
        Check.answers("P19 on the channel of light 3", 3, () -> x.channel(12, 0, 0));
        Check.fails("P10 twelve again", Check.STATE, () -> x.request(0, 1, 7, 0));
    }

    private static void aPlaceByBegin() {
        Opticmesh x = twelve(5, 6);
        x.begin(2, 8);
        x.addFibre(0, 1, 5);
        x.addFibre(0, 1, 6);
        for (int light = 0; light < 12; light++) {
            Check.answers("P2 light " + light + " after begin", light, () -> x.request(0, 1, 10, 0));
        }
        Check.fails("P10 a thirteenth after begin", Check.STATE, () -> x.request(0, 1, 10, 0));
    }

    private static void roomIsAskedBeforeThePlace() {
        Opticmesh x = Mesh.with(2, 8, new int[][] {{0, 1, 5}, {0, 1, 6}, {0, 1, 7}});
        for (int light = 0; light < 12; light++) {
            x.request(0, 1, 9, light == 5 ? 2 : 0);
        }
        for (int light = 0; light < 12; light++) {
            int last = light;
            if (light != 5) {
                Check.answers("P10 twelve lights, but room", light < 5 ? 12 + light : 11 + light,
                    () -> x.request(0, 1, 1, 0));
                Check.answers("P17 light " + light + " is full", 10, () -> x.units(last));
            }
        }
        Check.fails("P10 no room unprotected", Check.STATE, () -> x.request(0, 1, 1, 1));
        Check.answers("P10 room protected", 23, () -> x.request(0, 1, 1, 2));
        Check.fails("P10 no room at all", Check.STATE, () -> x.request(0, 1, 1, 2));
    }

    private static void othersWorkAmongTwelve() {
        Opticmesh x = twelve(5, 6);
        Check.answers("P20 reroute", 5, () -> x.reroute(0));
        Check.answers("P20 the last light", 6, () -> x.reroute(11));
        Check.fails("P22 all are as low as can be", Check.STATE, () -> x.move());
        Check.fails("P21 all are full", Check.STATE, () -> x.merge());
        Check.answers("P23 eight on one fibre", 8, () -> x.wavelengthsNeeded());
        Check.answers("P8 eight on one fibre", 8, () -> x.load());
        Check.same("P9 twelve of sixteen", 0.75f, x.usage());
        Check.answers("P7 the last light", 11, () -> x.lightOn(1, 3));
        Check.answers("P5 eight go down", 8, () -> x.cut(0));
        Check.answers("P5 four go down", 4, () -> x.cut(1));
        Check.answers("P6 eight come up", 8, () -> x.repair(0));
        Check.answers("P6 four come up", 4, () -> x.repair(1));
        Check.answers("P12 light 0", 0, () -> x.release(0));
        Check.answers("P22 the lowest on fibre 0", 1, () -> x.move());
        Check.answers("P20 the last light takes the free channel", 5, () -> x.reroute(11));
        Check.answers("P19 wavelength 1 of fibre 0", 1, () -> x.channel(11, 0, 0));
    }

    private static void sixtyRequestsByEachWay() {
        Opticmesh room = sixty(1);
        Check.answers("P14 sixty", 60, () -> room.requests());
        Check.answers("P15 six lights", 6, () -> room.lights());
        Check.fails("P10 a 61st for a new light", Check.STATE, () -> room.request(0, 1, 1, 0));
        Check.fails("P10 a 61st that is protected", Check.STATE, () -> room.request(0, 1, 1, 2));
        Check.answers("P12 a unit of light 0", 9, () -> room.release(0));
        Check.fails("P10 a 61st with room", Check.STATE, () -> room.request(0, 1, 1, 0));
        Check.answers("P12 the 60th", 9, () -> room.release(59));
        Check.answers("P14 released ones count", 60, () -> room.requests());
        Check.fails("P10 a 61st by rule 1", Check.STATE, () -> room.request(1, 0, 1, 1));
        Check.answers("P11 newLength by rule 0", 5, () -> room.newLength(0, 1, 0));
        Check.answers("P11 newLength by rule 1", 6, () -> room.newLength(0, 1, 1));
        Check.answers("P11 newLength by rule 2", 11, () -> room.newLength(0, 1, 2));
        Check.fails("P13 no request 60", Check.INDEX, () -> room.lightOf(60));
        Check.fails("P12 no request 60", Check.INDEX, () -> room.release(60));
    }

    private static void refusedRequestsAreNone() {
        Opticmesh x = Mesh.with(3, 1, new int[][] {{0, 1, 5}});
        for (int count = 0; count < 60; count++) {
            int number = count;
            Check.fails("P10 no way", Check.STATE, () -> x.request(0, 2, 1, 0));
            Check.fails("P10 no demand", Check.ARGUMENT, () -> x.request(0, 1, 0, 0));
            Check.answers("P10 request " + count, count, () -> x.request(0, 1, 1, 0));
            Check.answers("P12 release " + count, 0, () -> x.release(number));
        }
        Check.answers("P14 sixty were granted", 60, () -> x.requests());
        Check.fails("P10 not one more", Check.STATE, () -> x.request(0, 1, 1, 0));
    }

    private static void sixtyRequestsAfterBegin() {
        Opticmesh x = sixty(1);
        x.begin(2, 8);
        x.addFibre(0, 1, 5);
        for (int count = 0; count < 60; count++) {
            Check.answers("P2 request " + count + " after begin", count, () -> x.request(0, 1, 1, 0));
        }
        Check.fails("P10 a 61st after begin", Check.STATE, () -> x.request(0, 1, 1, 0));
        Check.answers("P15 six lights after begin", 6, () -> x.lights());
    }

    private static void othersWorkAfterSixty() {
        Opticmesh x = sixty(1);
        for (int request = 0; request < 6; request++) {
            x.release(request);
            x.release(59 - request);
        }
        Check.answers("P21 light 0 and light 5", 5, () -> x.merge());
        Check.answers("P17 4 and 4", 8, () -> x.units(0));
        Check.answers("P13 the last one's requests", 0, () -> x.lightOf(53));
        Check.fails("P22 nothing to move", Check.STATE, () -> x.move());
        Check.answers("P20 reroute", 5, () -> x.reroute(4));
        for (int request = 10; request < 20; request++) {
            x.release(request);
        }
        Check.answers("P16 light 1 is gone", 2, () -> x.state(1));
        Check.answers("P22 light 2 moves to its wavelength", 2, () -> x.move());
        Check.answers("P7 there it is", 2, () -> x.lightOn(0, 1));
        Check.answers("P5 four lights", 4, () -> x.cut(0));
        Check.answers("P20 reroute to the other fibre", 6, () -> x.reroute(4));
        Check.answers("P14 sixty all the time", 60, () -> x.requests());
    }

    /** As many lights as there can be: each request gets one of its own. */
    private static void sixtyLights() {
        Opticmesh x = Mesh.with(2, 8, new int[][] {{0, 1, 5}, {0, 1, 6}});
        for (int light = 0; light < 60; light++) {
            int number = light;
            x.request(0, 1, 10, 0);
            Check.answers("P13 light " + light, light, () -> x.lightOf(number));
            if (light > 8) {
                x.release(light - 9);
            }
        }
        Check.answers("P15 sixty lights", 60, () -> x.lights());
        Check.answers("P16 the last one is up", 0, () -> x.state(59));
        Check.answers("P16 the first one is gone", 2, () -> x.state(0));
        Check.answers("P17 the last one's units", 10, () -> x.units(59));
        Check.fails("P16 no light 60", Check.INDEX, () -> x.state(60));
        Check.fails("P20 no light 60", Check.INDEX, () -> x.reroute(60));
        Check.answers("P8 seven of nine on fibre 0", 7, () -> x.load());
        Check.answers("P23 seven of nine on fibre 0", 7, () -> x.wavelengthsNeeded());
        Check.fails("P21 nine full ones", Check.STATE, () -> x.merge());
        Check.answers("P22 light 51 takes the free channel", 51, () -> x.move());
        Check.answers("P19 on wavelength 0", 0, () -> x.channel(51, 0, 0));
        x.release(51);
        Check.answers("P20 the last one takes it then", 5, () -> x.reroute(59));
        Check.answers("P19 on wavelength 0", 0, () -> x.channel(59, 0, 0));
        Check.answers("P12 the last one goes", 0, () -> x.release(59));
        Check.answers("P16 the last one is gone", 2, () -> x.state(59));
    }

    private static void tenUnitsByEveryPair() {
        for (int first = 1; first <= 10; first++) {
            for (int second = 1; second <= 10; second++) {
                int one = first;
                int other = second;
                Opticmesh x = Mesh.with(2, 2, new int[][] {{0, 1, 5}});
                x.request(0, 1, one, 0);
                x.request(0, 1, other, 1);
                boolean fits = first + second <= 10;
                String what = first + " and " + second + " units";
                Check.answers("P10 " + what, fits ? 0 : 1, () -> x.lightOf(1));
                Check.answers("P17 " + what, fits ? first + second : first, () -> x.units(0));
                mergedIfTheyFit(one, other);
            }
        }
    }

    /** Two lights with so many units: beside the first one's stands a request that is released afterwards. */
    private static void mergedIfTheyFit(int one, int other) {
        Opticmesh x = Mesh.with(2, 2, new int[][] {{0, 1, 5}});
        x.request(0, 1, one, 0);
        if (one < 10) {
            x.request(0, 1, 10 - one, 0);
        }
        x.request(0, 1, other, 0);
        if (one < 10) {
            x.release(1);
        }
        String what = "P21 " + one + " and " + other + " units";
        if (one + other <= 10) {
            Check.answers(what, 1, () -> x.merge());
            Check.answers(what + " together", one + other, () -> x.units(0));
        } else {
            Check.fails(what, Check.STATE, () -> x.merge());
            Check.answers(what + " apart", other, () -> x.units(1));
        }
    }

    private static void tenUnitsOfOnes() {
        Opticmesh x = Mesh.with(2, 1, new int[][] {{0, 1, 5}});
        for (int units = 1; units <= 10; units++) {
            int due = units;
            x.request(units % 2, 1 - units % 2, 1, units % 2);
            Check.answers("P17 " + units, due, () -> x.units(0));
        }
        Check.fails("P10 an eleventh", Check.STATE, () -> x.request(0, 1, 1, 0));
        for (int units = 9; units >= 0; units--) {
            int due = units;
            Check.answers("P12 " + units + " are left", due, () -> x.release(due));
        }
        Check.answers("P16 none is left", 2, () -> x.state(0));
    }

    private static void roomComesBack() {
        Opticmesh x = Mesh.with(2, 1, new int[][] {{0, 1, 5}});
        x.request(0, 1, 4, 0);
        x.request(0, 1, 6, 0);
        Check.fails("P10 full", Check.STATE, () -> x.request(0, 1, 1, 0));
        Check.answers("P12 6 are left", 6, () -> x.release(0));
        Check.fails("P10 5 are too many beside 6", Check.STATE, () -> x.request(0, 1, 5, 0));
        Check.answers("P10 4 are not", 2, () -> x.request(0, 1, 4, 0));
        Check.fails("P10 full again", Check.STATE, () -> x.request(0, 1, 1, 0));
        Check.answers("P12 4 are left", 4, () -> x.release(1));
        Check.fails("P10 7 are too many beside 4", Check.STATE, () -> x.request(0, 1, 7, 0));
        Check.answers("P10 6 are not", 3, () -> x.request(0, 1, 6, 0));
        Check.answers("P15 one light", 1, () -> x.lights());
    }

    private static void allLimitsAtOnce() {
        Opticmesh x = new Opticmesh();
        x.begin(2, 8);
        for (int fibre = 0; fibre < 14; fibre++) {
            x.addFibre(0, 1, 1000);
        }
        for (int count = 0; count < 60; count++) {
            int number = count;
            Check.answers("P10 request " + count, count, () -> x.request(0, 1, 2, 0));
            Check.answers("P13 five to a light", count / 5, () -> x.lightOf(number));
        }
        Check.fails("P10 a 61st", Check.STATE, () -> x.request(0, 1, 2, 0));
        Check.fails("P3 a fifteenth", Check.STATE, () -> x.addFibre(0, 1, 1));
        Check.fails("P21 none to merge", Check.STATE, () -> x.merge());
        Check.fails("P22 none to move", Check.STATE, () -> x.move());
        Check.answers("P11 a way", 1000, () -> x.newLength(0, 1, 0));
        Check.answers("P11 on wavelength 0", 1000, () -> x.newLength(0, 1, 1));
        Check.answers("P11 a pair", 2000, () -> x.newLength(0, 1, 2));
        for (int light = 0; light < 12; light++) {
            int asked = light;
            Check.answers("P17 light " + light, 10, () -> x.units(asked));
            Check.answers("P20 light " + light, 1000, () -> x.reroute(asked));
        }
        Check.same("P9 twelve of 112", 12f / 112f, x.usage());
        Check.answers("P12 the last request", 8, () -> x.release(59));
        Check.fails("P10 still a 61st", Check.STATE, () -> x.request(0, 1, 2, 0));
    }

    /** Eight nodes in a row, each joined to the next one by two fibres of the same length. */
    private static Opticmesh ladder() {
        Opticmesh x = new Opticmesh();
        x.begin(8, 8);
        for (int row = 0; row < 2; row++) {
            for (int node = 0; node < 7; node++) {
                x.addFibre(node, node + 1, 1000);
            }
        }
        return x;
    }

    private static void everyChannelUsed() {
        Opticmesh x = ladder();
        for (int light = 0; light < 8; light++) {
            Check.same("P9 " + light + " of 8 wavelengths", (float) (14 * light) / 112f, x.usage());
            Check.answers("P10 light " + light, light, () -> x.request(0, 7, 10, 2));
        }
        Check.same("P9 all channels", 1f, x.usage());
        Check.answers("P8 all channels", 8, () -> x.load());
        Check.answers("P23 all channels", 8, () -> x.wavelengthsNeeded());
        for (int rule = 0; rule <= 2; rule++) {
            int asked = rule;
            Check.fails("P10 no channel is free", Check.STATE, () -> x.request(3, 4, 1, asked));
            Check.fails("P11 no channel is free", Check.STATE, () -> x.newLength(3, 4, asked));
        }
        for (int fibre = 0; fibre < 14; fibre++) {
            for (int wavelength = 0; wavelength < 8; wavelength++) {
                int asked = fibre;
                int light = wavelength;
                Check.answers("P7 " + fibre + ", " + wavelength, light, () -> x.lightOn(asked, light));
            }
        }
        for (int place = 0; place < 7; place++) {
            int at = place;
            Check.answers("P19 the last light, way 0", 10 * place + 7, () -> x.channel(7, 0, at));
            Check.answers("P19 the last light, way 1", 10 * place + 77, () -> x.channel(7, 1, at));
        }
        Check.fails("P22 none to move", Check.STATE, () -> x.move());
        Check.answers("P12 the first light", 0, () -> x.release(0));
        Check.answers("P22 light 1, way 0", 1, () -> x.move());
        Check.answers("P22 light 1, way 1", 1, () -> x.move());
        Check.answers("P22 light 2, way 0", 2, () -> x.move());
    }

    private static void highestChannels() {
        Opticmesh x = ladder();
        for (int light = 0; light < 7; light++) {
            x.request(6, 7, 10, 2);
        }
        Check.answers("P10 the last hop on wavelength 7", 7, () -> x.request(7, 6, 10, 2));
        Check.answers("P19 channel 67", 67, () -> x.channel(7, 0, 0));
        Check.answers("P19 channel 137", 137, () -> x.channel(7, 1, 0));
        Check.answers("P7 light 7 on it", 7, () -> x.lightOn(13, 7));
        x.release(0);
        Check.answers("P22 first light 1", 1, () -> x.move());
        Opticmesh y = Mesh.with(2, 8, new int[][] {{0, 1, 1000}});
        for (int light = 0; light < 8; light++) {
            y.request(0, 1, 10, 1);
        }
        for (int light = 0; light < 7; light++) {
            y.release(light);
        }
        Check.answers("P22 from wavelength 7", 7, () -> y.move());
        Check.answers("P22 to wavelength 0", 0, () -> y.channel(7, 0, 0));
        Check.fails("P22 it is as low as can be", Check.STATE, () -> y.move());
    }

    /** Twelve lights of which each two share a fibre, though no fibre bears more than eight. */
    private static void moreNeededThanThereAre() {
        Opticmesh x = Mesh.with(4, 8, new int[][] {{0, 1, 1}, {0, 2, 1}, {0, 3, 1}});
        x.toggleConverter(0);
        for (int round = 0; round < 4; round++) {
            x.request(1, 2, 10, 0);
            x.request(2, 3, 10, 0);
            x.request(3, 1, 10, 0);
        }
        Check.answers("P15 twelve lights", 12, () -> x.lights());
        Check.answers("P8 eight on each fibre", 8, () -> x.load());
        Check.same("P9 all channels", 1f, x.usage());
        Check.answers("P23 twelve are needed", 12, () -> x.wavelengthsNeeded());
        x.release(5);
        Check.answers("P23 eleven", 11, () -> x.wavelengthsNeeded());
        Opticmesh y = Mesh.with(4, 2, new int[][] {{0, 1, 1}, {0, 2, 1}, {0, 3, 1}});
        y.toggleConverter(0);
        y.request(1, 2, 10, 0);
        y.request(2, 3, 10, 0);
        Check.answers("P23 as many as there are", 2, () -> y.wavelengthsNeeded());
        y.request(3, 1, 10, 0);
        Check.answers("P23 one more than there are", 3, () -> y.wavelengthsNeeded());
    }

    private static void theLastCall() {
        Opticmesh x = new Opticmesh();
        x.begin(2, 8);
        x.addFibre(0, 1, 5);
        for (int call = 2; call < 508; call++) {
            Check.answers("call " + call, -1, () -> x.lightOn(0, 7));
        }
        Check.answers("call 509", 0, () -> x.request(0, 1, 10, 0));
        Check.answers("call 510", 5, () -> x.reroute(0));
        Check.answers("call 511", 1, () -> x.wavelengthsNeeded());
        Check.fails("call 512", Check.INDEX, () -> x.state(1));
        Opticmesh y = new Opticmesh();
        for (int call = 0; call < 510; call++) {
            y.begin(2 + (call + 1) % 7, 1 + call % 8);
        }
        Check.answers("call 511 after many begins", 0, () -> y.addFibre(7, 0, 1));
        Check.answers("call 512 after many begins", 1, () -> y.newLength(0, 7, 1));
    }
}
