import java.util.ArrayList;
import java.util.Arrays;
import java.util.List;

/**
 * BESIDE, FAR, WAY, HUB, WORST, ALL and HINGES once more, found from nothing but whose each cell is and who is up:
 * in nets with zones of one cell at the edges of others, with scattered nodes, and with dead ones.
 */
public final class CellsTest {
    private final String text;
    private final int reality;
    private final int[][] nodeAt = new int[32][32];
    private final int[] status = new int[10];
    private final boolean[][] beside = new boolean[10][10];

    private CellsTest(String text, int reality) {
        this.text = text;
        this.reality = reality;
        for (int y = 0; y < 32; y += 8) {
            Drive drive = anew();
            for (int cell = y * 32; cell < (y + 8) * 32; cell++) {
                nodeAt[cell % 32][cell / 32] = number(drive, "cell", reality, cell % 32, cell / 32, 1);
            }
            for (int node = 0; node < 10; node++) {
                status[node] = number(drive, "node", node, 0);
            }
        }
        findBeside();
    }

    public static void main(String[] args) {
        for (String text : nets()) {
            int realities = text.startsWith("net ") ? text.charAt(4) - '0' : 1;
            for (int r = 0; r < realities; r++) {
                CellsTest test = new CellsTest(text, r);
                test.volumes();
                test.neighbours();
                test.ways();
                test.hops();
                test.hinges();
            }
        }
        Drive.finish();
    }

    private static List<String> nets() {
        List<String> nets = new ArrayList<>();
        // Zones down to one cell, each beside the first or the last cells of great ones.
        for (String cell : new String[] {"0 0", "16 0", "0 16", "15 0", "0 15", "31 31", "15 15", "16 16", "31 0", "7 24"}) {
            nets.add("net 2" + (";join 0 0 at " + cell).repeat(10) + ";leave 0;join 0 0 at " + cell);
        }
        nets.add("net 3" + many("9 9", "31 31", "0 31", "31 31", "0 0", "0 0", "0 31", "0 31", "31 31", "31 31"));
        nets.add("net 3" + many("8 20", "16 0", "16 16", "12 28", "16 0", "2 22", "4 19", "14 2", "12 6", "10 12") + ";crash 2");
        // Several hinges, one of them not the last one ahead of a way's end.
        nets.add("net 1" + many("8 20", "16 0", "16 16") + ";crash 2" + many("12 28", "16 0", "2 22", "4 19", "14 2", "12 6", "10 12"));
        nets.add("net 1" + many("16 16", "16 25", "16 24", "0 28", "28 8", "25 19", "8 12", "18 30", "28 28", "12 0") + ";crash 2");
        // Scattered nodes, who are beside others by one of their zones alone.
        nets.add("net 2" + many("24 24", "28 12", "0 16") + ";leave 1" + many("8 12") + ";leave 2" + many("0 16", "10 12", "30 30"));
        nets.add("net 2" + many("0 0", "20 0", "0 0") + ";leave 1" + many("0 0", "0 0", "0 0", "20 20", "30 4", "30 30"));
        nets.add("net 3" + many("0 0", "16 0", "16 16", "24 16") + ";leave 1;crash 0");
        nets.add("net 2" + many("5 5", "20 9"));
        nets.add("net 1" + many("5 5"));
        return nets;
    }

    private static String many(String... points) {
        StringBuilder text = new StringBuilder();
        for (String point : points) {
            text.append(";join 0 0 at ").append(point);
        }
        return text.toString();
    }

    private Drive anew() {
        Drive drive = new Drive("reality " + reality + " of [" + text + "]");
        drive.tape(text).does("acts").due(-1, "fault");
        return drive;
    }

    private static int number(Drive drive, String name, int... row) {
        return Integer.parseInt(drive.call(name, row));
    }

    private void findBeside() {
        for (int x = 0; x < 32; x++) {
            for (int y = 0; y < 32; y++) {
                int here = nodeAt[x][y];
                int right = nodeAt[(x + 1) % 32][y];
                int behind = nodeAt[x][(y + 1) % 32];
                beside[here][right] |= here != right;
                beside[right][here] |= here != right;
                beside[here][behind] |= here != behind;
                beside[behind][here] |= here != behind;
            }
        }
    }

    private void volumes() {
        int[] cells = new int[10];
        for (int[] row : nodeAt) {
            for (int node : row) {
                cells[node]++;
            }
        }
        Drive drive = anew();
        int most = -1;
        int least = 2000;
        for (int node = 0; node < 10; node++) {
            drive.due(cells[node], "held", node, reality, 1);
            most = status[node] == 1 ? Math.max(most, cells[node]) : most;
            least = status[node] == 1 ? Math.min(least, cells[node]) : least;
        }
        drive.due(most < 0 ? -1 : most - least, "reality", reality, 1);
    }

    private void neighbours() {
        Drive drive = anew();
        int hub = -1;
        int most = -1;
        for (int node = 0; node < 10; node++) {
            int bits = 0;
            for (int other = 0; other < 10; other++) {
                bits |= beside[node][other] ? 1 << other : 0;
            }
            drive.due(bits, "held", node, reality, 2);
            if (status[node] == 1 && Integer.bitCount(bits) > most) {
                most = Integer.bitCount(bits);
                hub = node;
            }
        }
        drive.due(hub, "reality", reality, 2);
    }

    private static int round(int one, int other) {
        return Math.min(Math.floorMod(one - other, 32), Math.floorMod(other - one, 32));
    }

    private int[] farFrom(int x, int y) {
        int[] far = new int[10];
        Arrays.fill(far, 99);
        for (int cell = 0; cell < 1024; cell++) {
            int node = nodeAt[cell % 32][cell / 32];
            far[node] = Math.min(far[node], round(cell % 32, x) + round(cell / 32, y));
        }
        return far;
    }

    /** The nodes of a way; one that is stuck ends with NONE. */
    private List<Integer> way(int first, int x, int y, int dead) {
        int[] far = farFrom(x, y);
        List<Integer> nodes = new ArrayList<>();
        int here = first;
        nodes.add(here);
        while (nodeAt[x][y] != here) {
            int next = -1;
            for (int node = 0; node < 10; node++) {
                boolean can = beside[here][node] && status[node] == 1 && node != dead && far[node] < far[here];
                next = can && (next < 0 || far[node] < far[next]) ? node : next;
            }
            nodes.add(next);
            if (next < 0) {
                return nodes;
            }
            here = next;
        }
        return nodes;
    }

    private static int hopsOf(List<Integer> nodes) {
        return nodes.contains(-1) ? -1 : nodes.size() - 1;
    }

    private void ways() {
        int[] points = {0, 5, 7, 8, 13, 15, 16, 19, 20, 24, 30, 31};
        for (int x : points) {
            Drive drive = anew();
            for (int i = 0; i < 30; i++) {
                int first = i % 10;
                int y = points[(x + i) % points.length];
                if (status[first] != 1) {
                    drive.state("way", first, reality, x, y, 0);
                    continue;
                }
                List<Integer> nodes = way(first, x, y, -1);
                drive.due(hopsOf(nodes), "way", first, reality, x, y, -1);
                for (int k = 0; k < nodes.size(); k++) {
                    drive.due(nodes.get(k), "way", first, reality, x, y, k);
                }
                drive.due(-1, "way", first, reality, x, y, nodes.size());
            }
        }
    }

    /** The cell that ways to a node end at; null of one that is not up. */
    private int[] endOf(Drive drive, int node) {
        if (status[node] != 1) {
            return null;
        }
        int zone = number(drive, "zone", node, reality, 0);
        return new int[] {number(drive, "box", zone, 1), number(drive, "box", zone, 2)};
    }

    private int hopsBetween(int first, int last, int[] end, int dead) {
        boolean is = first != last && first != dead && last != dead && status[first] == 1 && end != null;
        return is ? hopsOf(way(first, end[0], end[1], dead)) : -1;
    }

    private void hops() {
        Drive drive = anew();
        int together = 0;
        int many = 0;
        int worst = -1;
        for (int last = 0; last < 10; last++) {
            int[] end = endOf(drive, last);
            for (int first = 0; first < 10; first++) {
                int hops = hopsBetween(first, last, end, -1);
                together += Math.max(hops, 0);
                many += hops < 0 ? 0 : 1;
                worst = Math.max(worst, hops);
            }
        }
        drive.due(together, "ways", reality, 0).due(many, "ways", reality, 1).due(worst, "reality", reality, 3);
    }

    private void hinges() {
        Drive drive = anew();
        int hinges = 0;
        for (int last = 0; last < 10; last++) {
            int[] end = endOf(drive, last);
            for (int dead = 0; dead < 10; dead++) {
                for (int first = 0; first < 10 && status[dead] == 1; first++) {
                    boolean others = first != dead && last != dead;
                    if (others && hopsBetween(first, last, end, -1) >= 0 && hopsBetween(first, last, end, dead) < 0) {
                        hinges |= 1 << dead;
                    }
                }
            }
        }
        drive.due(hinges, "ways", reality, 2);
    }
}
