/** Networks for the tests, and the ways of their lights. */
final class Mesh {

    private Mesh() {
    }

    /** A network with fibres, each one told by its two nodes and its length. */
    static Opticmesh with(int nodes, int wavelengths, int[][] fibres) {
        Opticmesh x = new Opticmesh();
        x.begin(nodes, wavelengths);
        for (int[] fibre : fibres) {
            x.addFibre(fibre[0], fibre[1], fibre[2]);
        }
        return x;
    }

    /** Looks at all channels of a way. */
    static void way(String what, Opticmesh x, int light, int way, int... channels) {
        Check.answers(what + ": channels", channels.length, () -> x.channels(light, way));
        for (int place = 0; place < channels.length; place++) {
            int at = place;
            Check.answers(what + ": place " + place, channels[place], () -> x.channel(light, way, at));
        }
    }
}
