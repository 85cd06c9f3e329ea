import java.util.ArrayList;
import java.util.Arrays;
import java.util.List;

/**
 * Finds the first of all ways by a table: for a node, the nodes that were visited and the wavelength on which
 * light comes there, what is the least rank of the rest? A rank is length, conversions, and channels in one number.
 */
final class WayTable {

    private static final int LENGTH = 10000;
    private static final int CONVERSION = 100;
    private static final int CHANNEL = 1;
    private static final int NONE = Integer.MAX_VALUE / 2;
    private static final int UNKNOWN = -1;
    /** At the first node light comes on no wavelength. */
    private static final int ANY = 8;

    private final List<SlowMesh.Fibre> fibres;
    private final boolean[] open;
    private final boolean[] converters;
    private final int[] ranks = new int[8 * 256 * 9];
    private int target;

    WayTable(List<SlowMesh.Fibre> itsFibres, boolean[] openChannels, boolean[] convertingNodes) {
        fibres = itsFibres;
        open = openChannels;
        converters = convertingNodes;
    }

    List<Integer> first(int from, int to) {
        target = to;
        Arrays.fill(ranks, UNKNOWN);
        if (rank(from, 1 << from, ANY) >= NONE) {
            return null;
        }
        List<Integer> way = new ArrayList<>();
        int node = from;
        int seen = 1 << from;
        int wavelength = ANY;
        while (node != to) {
            int channel = lowestThatKeepsTheRank(node, seen, wavelength);
            way.add(channel);
            node = fibres.get(channel / 10).across(node);
            seen |= 1 << node;
            wavelength = channel % 10;
        }
        return way;
    }

    private int lowestThatKeepsTheRank(int node, int seen, int wavelength) {
        int channel = 0;
        while (rankBy(channel, node, seen, wavelength) != rank(node, seen, wavelength)) {
            channel++;
        }
        return channel;
    }

    private int rank(int node, int seen, int wavelength) {
        if (node == target) {
            return 0;
        }
        int at = (node * 256 + seen) * 9 + wavelength;
        if (ranks[at] == UNKNOWN) {
            int least = NONE;
            for (int channel = 0; channel < 10 * fibres.size(); channel++) {
                least = Math.min(least, rankBy(channel, node, seen, wavelength));
            }
            ranks[at] = least;
        }
        return ranks[at];
    }

    private int rankBy(int channel, int node, int seen, int wavelength) {
        SlowMesh.Fibre fibre = fibres.get(channel / 10);
        int next = fibre.across(node);
        if (!open[channel] || next < 0 || (seen >> next & 1) != 0) {
            return NONE;
        }
        boolean isConversion = wavelength != ANY && wavelength != channel % 10;
        if (isConversion && !converters[node]) {
            return NONE;
        }
        int rest = rank(next, seen | 1 << next, channel % 10);
        return Math.min(NONE, fibre.length() * LENGTH + (isConversion ? CONVERSION : 0) + CHANNEL + rest);
    }
}
