import java.util.ArrayList;
import java.util.List;

/**
 * All closed ways through corners of a grid, found by walking along its lines. Nothing of the rules
 * and nothing of the search is in it, so it is a judge of both.
 */
final class Rings {
    final int width;
    final int height;
    final int edges;
    /** Each ring as a set of edges, the edge with the number n as bit n. */
    final List<Long> all = new ArrayList<>();
    private final int corners;

    Rings(int width, int height) {
        this.width = width;
        this.height = height;
        edges = (height + 1) * width + height * (width + 1);
        corners = (width + 1) * (height + 1);
        for (int start = 0; start < corners; start++) {
            walk(start, start, 1L << start, 0L, -1);
        }
    }

    /** Goes on over greater corners than the start, which is thus the least one of each ring. */
    private void walk(int start, int corner, long passed, long way, int second) {
        for (int next = start; next < corners; next++) {
            int edge = edgeBetween(corner, next);
            if (edge < 0 || (way >> edge & 1) != 0) {
                continue;
            }
            // Each ring is walked in both directions, and kept in one of them.
            if (next == start && second < corner) {
                all.add(way | 1L << edge);
            } else if ((passed >> next & 1) == 0) {
                walk(start, next, passed | 1L << next, way | 1L << edge, second < 0 ? next : second);
            }
        }
    }

    /** The edge that leads from one corner to a neighbor, or -1. */
    private int edgeBetween(int corner, int other) {
        int least = Math.min(corner, other);
        int row = least / (width + 1);
        int column = least % (width + 1);
        if (Math.max(corner, other) == least + 1 && column < width) {
            return row * width + column;
        }
        if (Math.max(corner, other) == least + width + 1) {
            return (height + 1) * width + row * (width + 1) + column;
        }
        return -1;
    }

    /** How many edges of a set are around a cell. */
    int around(int cell, long set) {
        int row = cell / width;
        int column = cell % width;
        int above = cell;
        int left = (height + 1) * width + row * (width + 1) + column;
        return in(set, above) + in(set, above + width) + in(set, left) + in(set, left + 1);
    }

    /** How many edges of a set are at a corner. */
    int at(int corner, long set) {
        int n = 0;
        for (int other = 0; other < corners; other++) {
            int edge = edgeBetween(corner, other);
            n += edge < 0 ? 0 : in(set, edge);
        }
        return n;
    }

    /** Whether each corner of a ring has exactly two edges of a set that contains the ring. */
    boolean isAlone(long ring, long set) {
        for (int corner = 0; corner < corners; corner++) {
            if (at(corner, ring) > 0 && at(corner, set) != 2) {
                return false;
            }
        }
        return true;
    }

    static int in(long set, int edge) {
        return (int) (set >> edge & 1);
    }
}
