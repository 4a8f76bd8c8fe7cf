/**
 * A flow from one place to another, made by ways that still have room. The tests use it because the
 * program finds the same numbers in another manner, by sets of members.
 */
final class Flow {
    final int places;
    final int[][] room;

    Flow(int places) {
        this.places = places;
        this.room = new int[places][places];
    }

    /** Sends as much as can be sent, at most limit, and answers how much that was. */
    int send(int from, int to, int limit) {
        int sent = 0;
        int[] came = new int[places];
        while (sent < limit && search(from, to, came)) {
            int amount = limit - sent;
            for (int v = to; v != from; v = came[v]) {
                amount = Math.min(amount, room[came[v]][v]);
            }
            for (int v = to; v != from; v = came[v]) {
                room[came[v]][v] -= amount;
                room[v][came[v]] += amount;
            }
            sent += amount;
        }
        return sent;
    }

    private boolean search(int from, int to, int[] came) {
        boolean[] seen = new boolean[places];
        int[] queue = new int[places];
        int end = 0;
        queue[end++] = from;
        seen[from] = true;
        for (int next = 0; next < end; next++) {
            int u = queue[next];
            for (int v = 0; v < places; v++) {
                if (!seen[v] && room[u][v] > 0) {
                    seen[v] = true;
                    came[v] = u;
                    queue[end++] = v;
                }
            }
        }
        return seen[to];
    }
}
