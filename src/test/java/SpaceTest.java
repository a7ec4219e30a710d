/** "SPACE: 32 by 32 cells (x, y 0 to 31), going round both ways", and ZONES and their DEPTH. */
public final class SpaceTest {
    public static void main(String[] args) {
        fourCorners();
        pointsGoRoundByX();
        pointsGoRoundByY();
        besideGoesRound();
        cornersAreNotBeside();
        heirsGoRound();
        farGoesRound();
        halfWayRound();
        acrossXThenAcrossY();
        depthZeroToTen();
        everyCoordinate();
        oneZoneForEachCell();
        mergedUpToAll();
        notMergedIfNotHalves();
        Drive.finish();
    }

    /** The corner cells stand as points of joins, of texts, of ways, and as cells; one beyond stands nowhere. */
    private static void fourCorners() {
        for (int corner = 0; corner < 4; corner++) {
            int x = corner / 2 * 31;
            int y = corner % 2 * 31;
            Drive a = new Drive("corner " + x + " " + y);
            a.due(0, "join", 0, 0, 9, 9).due(1, "join", 0, 0, x, y).due(2, "join", 0, 0, x, y);
            a.due(4 + corner, "zone", 2, 0, 0).due(2, "cell", 0, x, y, 1).due(4 + corner, "cell", 0, x, y, 0);
            a.due(0, "way", 2, 0, x, y, -1).due(2, "way", 0, 0, x, y, (int) Long.parseLong(a.call("way", 0, 0, x, y, -1)));
            int outX = x == 0 ? -1 : 32;
            int outY = y == 0 ? -1 : 32;
            a.argument("join", 0, 0, outX, y).argument("join", 0, 0, x, outY).argument("cell", 0, outX, y, 0);
            a.argument("cell", 0, x, outY, 0).argument("way", 0, 0, outX, y, 0).argument("way", 0, 0, x, outY, 0);
            Drive b = new Drive("corner in a text " + x + " " + y);
            b.text(3, "join 0 0 at 9 9;join 0 0 at " + x + " " + y + ";join 0 0 at " + x + " " + y).due(4 + corner, "zone", 2, 0, 0);
        }
        new Drive("beyond, in texts").wrongText(12, "join 0 0 at 32 31").wrongText(15, "join 0 0 at 31 32").due(0, "count", 1);
    }

    /** "at that with 11 times r to x .. (going round) in REALITY r": the half is that of x, 11 and x, 22 and x. */
    private static void pointsGoRoundByX() {
        // By reality the last x of the lesser half and the first of the greater one, and those where it goes round.
        int[][] edges = {{15, 16, 31, 0}, {4, 5, 20, 21}, {25, 26, 9, 10}};
        for (int r = 0; r < 3; r++) {
            for (int edge = 0; edge < 4; edge++) {
                Drive x = new Drive("x " + edges[r][edge] + " in reality " + r);
                x.text(3, "net 3;join 0 0 at 0 0;join 0 0 at " + edges[r][edge] + " 3");
                x.due(edge == 1 || edge == 2 ? 3 : 2, "zone", 1, r, 0);
            }
            for (int at = 0; at < 32; at++) {
                Drive x = new Drive("x " + at + " in reality " + r);
                x.text(2, "net 3;join 0 0 at 0 0").due(1, "join", 0, 0, at, 31);
                x.due((at + 11 * r) % 32 < 16 ? 2 : 3, "zone", 1, r, 0);
            }
        }
    }

    /** ".. 7 times r to y (going round)". */
    private static void pointsGoRoundByY() {
        int[][] edges = {{15, 16, 31, 0}, {8, 9, 24, 25}, {1, 2, 17, 18}};
        for (int r = 0; r < 3; r++) {
            int x = (32 - 11 * r + 32) % 32;
            for (int edge = 0; edge < 4; edge++) {
                Drive a = new Drive("y " + edges[r][edge] + " in reality " + r);
                a.text(2, "net 3;join 0 0 at 0 0").due(1, "join", 0, 0, x, edges[r][edge]).due(2, "join", 0, 0, x, edges[r][edge]);
                a.due(edge == 1 || edge == 2 ? 5 : 4, "zone", 2, r, 0).due(edge == 1 || edge == 2 ? 4 : 5, "zone", 1, r, 0);
            }
            for (int at = 0; at < 32; at++) {
                Drive a = new Drive("y " + at + " in reality " + r);
                a.text(3, "net 3;join 0 0 at 0 0;join 0 0 at " + x + " " + at).due(2, "join", 0, 0, x, at);
                a.due((at + 7 * r) % 32 < 16 ? 4 : 5, "zone", 2, r, 0);
            }
        }
    }

    /** Node 5 has 16 in the corner of least x and y, 7 has 21 and 9 has 31 in two of the others, 1 has 6 in the fourth. */
    private static Drive corners(String title) {
        Drive x = new Drive(title);
        int[][] points = {{9, 9}, {31, 31}, {0, 31}, {31, 31}, {0, 0}, {0, 0}, {0, 31}, {0, 31}, {31, 31}, {31, 31}};
        int[] zones = {9, 6, 11, 14, 17, 16, 20, 21, 30, 31};
        for (int node = 0; node < 10; node++) {
            x.due(node, "join", node, 0, points[node][0], points[node][1]);
        }
        for (int node = 0; node < 10; node++) {
            x.due(zones[node], "zone", node, 0, 0);
        }
        return x;
    }

    private static int bits(int... nodes) {
        int bits = 0;
        for (int node : nodes) {
            bits |= 1 << node;
        }
        return bits;
    }

    /** "cells side by side (by x or by y, going round)". */
    private static void besideGoesRound() {
        Drive x = corners("beside goes round");
        // Of 16: 9 to the right, 6 to the left, going round; 17 behind, 21 ahead, going round.
        x.due(bits(0, 1, 4, 7), "held", 5, 0, 2).due(bits(0, 1, 4, 7), "friends", 5);
        // Of 31: 14 to the left, 21 to the right, going round; 30 ahead, 6 behind, going round.
        x.due(bits(3, 7, 8, 1), "held", 9, 0, 2);
        x.due(bits(9, 2, 6, 5), "held", 7, 0, 2);
        // Of 6: 9 to the left, 16 and 17 to the right, going round; 14 and 30 behind; 14 and 31 ahead, going round.
        x.due(bits(0, 5, 4, 3, 8, 9), "held", 1, 0, 2).due(1, "held", 1, 0, 4).due(1, "reality", 0, 2);
    }

    private static void cornersAreNotBeside() {
        Drive x = corners("corners are not beside");
        // 16 and 31 meet at a corner alone, going round both ways; 9 and 14 meet at one as well.
        for (int[] pair : new int[][] {{5, 9}, {0, 3}}) {
            int one = Integer.parseInt(x.call("held", pair[0], 0, 2));
            int other = Integer.parseInt(x.call("held", pair[1], 0, 2));
            if ((one >> pair[1] & 1) != 0 || (other >> pair[0] & 1) != 0) {
                x.fail("nodes " + pair[0] + " and " + pair[1] + " are not beside each other");
            }
        }
    }

    /** Who is beside a zone that is handed is so by going round, too. */
    private static void heirsGoRound() {
        Drive x = corners("heirs go round by x");
        // Zone 6 of node 1: its other half is no zone; of those beside 4, 5, 8 and 9 have 64 cells.
        x.due(4, "heir", 1, 0, 0).due(9, "go", 8, 1).due(8, "go", 9, 1).due(4, "heir", 1, 0, 0).due(7, "go", 4, 1);
        x.due(5, "heir", 1, 0, 0).due(6, "go", 1, 0).due(6, "zone", 5, 0, 0).due(16, "zone", 5, 0, 1);
        Drive y = corners("heirs go round by y");
        y.due(9, "go", 4, 1).due(8, "go", 5, 1).due(7, "go", 8, 1).due(9, "heir", 1, 0, 0).due(6, "go", 1, 0);
        y.due(6, "zone", 9, 0, 0).due(31, "zone", 9, 0, 1);
    }

    /** "the fewest steps by x to a cell of it, the shorter way round, and by y, together". */
    private static void farGoesRound() {
        Drive x = corners("far goes round");
        // To (31, 31) both 6 and 21 are 1 far from it; to (29, 31) 21 is 3 far, to (31, 29) 6 is.
        x.due(2, "way", 5, 0, 31, 31, -1).due(1, "way", 5, 0, 31, 31, 1).due(9, "way", 5, 0, 31, 31, 2);
        x.due(1, "way", 5, 0, 29, 31, 1).due(9, "way", 5, 0, 29, 31, 2).due(7, "way", 5, 0, 31, 29, 1).due(9, "way", 5, 0, 31, 29, 2);
        // The same the other way round: from 31 to cells of 16.
        x.due(2, "way", 9, 0, 0, 0, -1).due(1, "way", 9, 0, 0, 0, 1).due(5, "way", 9, 0, 0, 0, 2);
        x.due(7, "way", 9, 0, 2, 0, 1).due(5, "way", 9, 0, 2, 0, 2).due(1, "way", 9, 0, 0, 2, 1).due(5, "way", 9, 0, 0, 2, 2);
    }

    /** "the shorter way round": up to half way it is the one, beyond it the other. */
    private static void halfWayRound() {
        Drive x = new Drive("half way round by x");
        x.text(6, "join 0 0 at 20 0;join 0 0 at 0 0;join 0 0 at 8 0;join 0 0 at 0 0;join 0 0 at 24 0;join 0 0 at 24 0");
        x.due(8, "zone", 3, 0, 0).due(9, "zone", 2, 0, 0).due(12, "zone", 4, 0, 0).due(13, "zone", 5, 0, 0);
        // From 8 (x 0 to 7) to 12 (x 16 to 23): by 9 up to 19, by 13, going round, from 20 on.
        x.due(2, "way", 3, 0, 19, 7, 1).due(4, "way", 3, 0, 19, 7, 2).due(5, "way", 3, 0, 20, 7, 1).due(4, "way", 3, 0, 20, 7, 2);
        Drive y = corners("half way round by y");
        // From 16 (y 0 to 7) to 20 (y 16 to 23): by 17 up to 19, by 21, going round, from 20 on.
        y.due(4, "way", 5, 0, 3, 19, 1).due(6, "way", 5, 0, 3, 19, 2).due(7, "way", 5, 0, 3, 20, 1).due(6, "way", 5, 0, 3, 20, 2);
    }

    /** "across x, if its DEPTH .. is even (2z has the lesser x), else across y". */
    private static void acrossXThenAcrossY() {
        Drive x = new Drive("across x, then across y");
        x.due(0, "join", 0, 0, 0, 0);
        int zone = 1;
        int[] low = {0, 0};
        int[] size = {32, 32};
        for (int depth = 0; depth < 9; depth++) {
            int side = depth % 2;
            size[side] /= 2;
            low[side] += size[side];
            // The first cell of the greater half and the last one of the lesser half.
            x.due(depth + 1, "join", 0, 0, low[0], low[1]).due(2 * zone + 1, "zone", depth + 1, 0, 0).due(2 * zone, "zone", depth, 0, 0);
            x.due(depth + 1, "cell", 0, low[0], low[1], 1);
            x.due(depth, "cell", 0, low[0] - (side == 0 ? 1 : 0), low[1] - (side == 1 ? 1 : 0), 1);
            zone = 2 * zone + 1;
        }
    }

    /** "DEPTH is 10 at most (one cell)"; "0 of 1, one more for each half". */
    private static void depthZeroToTen() {
        Drive x = new Drive("depth");
        for (int depth = 0; depth <= 10; depth++) {
            x.due(depth, "box", 1 << depth, 0).due(depth, "box", (2 << depth) - 1, 0);
            x.due(32 >> (depth + 1) / 2, "box", 1 << depth, 3).due(32 >> depth / 2, "box", 1 << depth, 4);
            x.due(0, "box", 1 << depth, 1).due(0, "box", 1 << depth, 2);
            x.due(32 - (32 >> (depth + 1) / 2), "box", (2 << depth) - 1, 1).due(32 - (32 >> depth / 2), "box", (2 << depth) - 1, 2);
        }
        x.argument("box", 0, 0).argument("box", 2048, 0).due(10, "box", 2047, 0).due(0, "box", 1, 0);
    }

    /** Each x and each y down to its single cell, whose number is found by halving across x and y in turn. */
    private static void everyCoordinate() {
        for (int one = 0; one < 32; one++) {
            singleCell(one, one * 5 % 32);
            singleCell(one * 11 % 32, one);
        }
    }

    private static void singleCell(int x, int y) {
        int zone = 1;
        for (int size = 16; size >= 1; size /= 2) {
            zone = 2 * zone + x / size % 2;
            zone = 2 * zone + y / size % 2;
        }
        Drive drive = new Drive("single cell " + x + " " + y);
        drive.text(12, "net 1" + (";join 0 0 at " + x + " " + y).repeat(10) + ";leave 0").due(zone / 2, "cell", 0, x, y, 0);
        drive.due(0, "join", 0, 0, x, y).due(zone, "zone", 0, 0, 0).due(1, "held", 0, 0, 1).due(zone, "cell", 0, x, y, 0);
        drive.due(zone ^ 1, "cell", 0, x, y ^ 1, 0).due(x, "box", zone, 1).due(y, "box", zone, 2).due(1, "box", zone, 3).due(1, "box", zone, 4);
        drive.due(0, "cell", 0, x, y, 1).due(9, "cell", 0, x, y ^ 1, 1);
    }

    /** "each cell is in just one ZONE that some NODE has", also behind comings and goings. */
    private static void oneZoneForEachCell() {
        for (int y = 0; y < 32; y++) {
            Drive x = corners("each cell in one zone");
            x.does("go", 1, 0).does("go", 5, 1).does("go", 5, 2).does("go", 3, 1).does("join", 0, 0, 31, 31);
            for (int at = 0; at < 32; at++) {
                int zone = Integer.parseInt(x.call("cell", 0, at, y, 0));
                int node = Integer.parseInt(x.call("cell", 0, at, y, 1));
                int[] box = new int[5];
                for (int what = 1; what < 5; what++) {
                    box[what] = Integer.parseInt(x.call("box", zone, what));
                }
                boolean inside = at >= box[1] && at < box[1] + box[3] && y >= box[2] && y < box[2] + box[4];
                if (!inside || !x.call("zone", node, 0, 0).equals("" + zone) && !x.call("zone", node, 0, 1).equals("" + zone)) {
                    x.fail("the cell " + at + " " + y + " is not in " + zone + " of " + node);
                }
            }
        }
    }

    /** "Both halves of a ZONE in one NODE are MERGED at once: it has that ZONE in place of them (again and again)." */
    private static void mergedUpToAll() {
        Drive x = new Drive("merged up to all");
        for (int node = 0; node < 10; node++) {
            x.due(node, "join", 0, 0, 31, 31);
        }
        // 1022 and 1023 make 511, with 510 they make 255, and so on, up to 1.
        for (int node = 8; node >= 0; node--) {
            x.due(node + 1, "go", node, 0).due((2 << node) - 1, "zone", 9, 0, 0).due(-1, "zone", 9, 0, 1).due(1024 >> node, "held", 9, 0, 1);
        }
        x.due(1, "zone", 9, 0, 0).due(1, "reality", 0, 0);
        Drive y = new Drive("merged again and again at once");
        // Node 2 gets 5 to its 9; 8 makes 4 with 9, and 2 with 5; 3 makes all.
        y.due(0, "join", 0, 0, 0, 0).due(1, "join", 0, 0, 0, 0).due(2, "join", 0, 0, 0, 0).due(3, "join", 0, 0, 0, 0);
        y.due(3, "zone", 0, 0, 0).due(5, "zone", 1, 0, 0).due(9, "zone", 2, 0, 0).due(8, "zone", 3, 0, 0);
        y.due(2, "heir", 1, 0, 0).due(3, "go", 1, 0).due(5, "zone", 2, 0, 0).due(9, "zone", 2, 0, 1);
        y.due(2, "go", 3, 0).due(2, "zone", 2, 0, 0).due(1, "held", 2, 0, 0).due(1, "go", 0, 0).due(1, "zone", 2, 0, 0);
    }

    /** Zones that lie side by side and make a whole box, but are not both halves of one, are not merged. */
    private static void notMergedIfNotHalves() {
        Drive x = GoTest.quarters("not halves");
        // With 5 and 7 of the dead, 4 goes to node 0, who has 6: side by side, but halves of two zones.
        x.due(3, "go", 1, 1).due(2, "go", 2, 1).due(0, "heir", 3, 0, 0).due(1, "go", 3, 0);
        x.due(2, "held", 0, 0, 0).due(4, "zone", 0, 0, 0).due(6, "zone", 0, 0, 1).due(512, "held", 0, 0, 1);
    }
}
