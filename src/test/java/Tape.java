/** Feeds texts to a hall's tape. */
final class Tape {
    private Tape() {
    }

    /** The pad fills the last twenty bytes: what stands behind a hall's n bytes must not count. */
    static int feed(StrikeHall x, String text, char pad) {
        StringBuilder padded = new StringBuilder(text);
        while (padded.length() % 20 != 0) {
            padded.append(pad);
        }
        int answer = 0;
        for (int at = 0; at < padded.length(); at += 20) {
            int[] n = new int[5];
            for (int i = 0; i < 20; i++) {
                n[i / 4] = n[i / 4] << 8 | padded.charAt(at + i);
            }
            answer = x.feed(n[0], n[1], n[2], n[3], n[4]);
        }
        return answer;
    }

    static int feed(StrikeHall x, String text) {
        return feed(x, text, ' ');
    }
}
