import java.util.ArrayList;
import java.util.List;

/**
 * A second reading of the document, word by word and slow: code words are searched for by their
 * definition, and receiving goes through the document's states one by one.
 */
final class LinkModel {
    private static final int BAD = -1;
    private static final int FULL = -2;
    private static final int LOST = -3;
    private static final int[] MARKER = {1, 0, 1, 1, 0, 0, 1, 0};
    private static final List<int[]> CODE = codeWords();

    private final List<Integer> line = new ArrayList<>();

    static int product(int p, int q) {
        int r = 0;
        for (int k = 0; k < 3; k++) {
            if ((q >> k & 1) == 1) {
                r ^= p << k;
            }
        }
        while (r > 7) {
            int d = 0;
            while (8 << (d + 1) <= r) {
                d++;
            }
            r ^= 11 << d;
        }
        return r;
    }

    private static int power(int n) {
        int r = 1;
        for (int k = 0; k < n; k++) {
            r = product(r, 2);
        }
        return r;
    }

    private static List<int[]> codeWords() {
        int[][][] terms = new int[5][7][8];
        for (int k = 1; k <= 4; k++) {
            for (int i = 0; i < 7; i++) {
                for (int c = 0; c < 8; c++) {
                    terms[k][i][c] = product(c, power(k * i));
                }
            }
        }
        List<int[]> words = new ArrayList<>();
        for (int number = 0; number < 1 << 21; number++) {
            boolean zero = true;
            for (int k = 1; k <= 4 && zero; k++) {
                int sum = 0;
                for (int i = 0; i < 7; i++) {
                    sum ^= terms[k][i][number >> 3 * i & 7];
                }
                zero = sum == 0;
            }
            if (zero) {
                int[] word = new int[7];
                for (int i = 0; i < 7; i++) {
                    word[i] = number >> 3 * i & 7;
                }
                words.add(word);
            }
        }
        return words;
    }

    static int distance(int[] p, int[] q) {
        int n = 0;
        for (int i = 0; i < 7; i++) {
            if (p[i] != q[i]) {
                n++;
            }
        }
        return n;
    }

    /** The code word to which seven symbols are mended, or null if they are lost. */
    static int[] mend(int[] symbols) {
        for (int[] word : CODE) {
            if (distance(word, symbols) <= 2) {
                return word;
            }
        }
        return null;
    }

    static int[] codeWord(int c4, int c5, int c6) {
        for (int[] word : CODE) {
            if (word[4] == c4 && word[5] == c5 && word[6] == c6) {
                return word;
            }
        }
        throw new IllegalStateException("no code word has " + c4 + ", " + c5 + ", " + c6);
    }

    static int codeSize() {
        return CODE.size();
    }

    int send(int message) {
        if (message < 0 || message > 262143) {
            return BAD;
        }
        if (line.size() + 50 > 300) {
            return FULL;
        }
        int[] m = new int[6];
        int rest = message;
        for (int r = 5; r >= 0; r--) {
            m[r] = rest % 8;
            rest /= 8;
        }
        int[] a = codeWord(m[0], m[2], m[4]);
        int[] b = codeWord(m[1], m[3], m[5]);
        int[] s = new int[14];
        for (int i = 0; i < 7; i++) {
            s[2 * i] = a[i];
            s[2 * i + 1] = b[i];
        }
        for (int bit : MARKER) {
            line.add(bit);
        }
        for (int j = 0; j < 14; j++) {
            int changed = s[j] ^ (j * j + 3 * j + 5) & 7;
            line.add(changed / 4);
            line.add(changed / 2 % 2);
            line.add(changed % 2);
        }
        return line.size();
    }

    int flip(int i) {
        if (bit(i) == BAD) {
            return BAD;
        }
        line.set(i, 1 - line.get(i));
        return line.get(i);
    }

    int drop(int i) {
        if (bit(i) == BAD) {
            return BAD;
        }
        line.remove(i);
        return line.size();
    }

    int insert(int i, boolean one) {
        if (i < 0 || i > line.size()) {
            return BAD;
        }
        if (line.size() == 300) {
            return FULL;
        }
        line.add(i, one ? 1 : 0);
        return line.size();
    }

    int clear() {
        int had = line.size();
        line.clear();
        return had;
    }

    int bits() {
        return line.size();
    }

    int bit(int i) {
        return i < 0 || i >= line.size() ? BAD : line.get(i);
    }

    private boolean sight(int p) {
        if (p + 7 >= line.size()) {
            return false;
        }
        int differ = 0;
        for (int i = 0; i < 8; i++) {
            if (line.get(p + i) != MARKER[i]) {
                differ++;
            }
        }
        return differ <= 1;
    }

    private boolean fits(int p) {
        return p + 49 < line.size();
    }

    private List<Integer> received() {
        List<Integer> places = new ArrayList<>();
        int present = 0;
        boolean hunting = true;
        boolean miss = false;
        while (true) {
            if (hunting) {
                int found = present;
                while (found < line.size() && !sight(found)) {
                    found++;
                }
                if (found >= line.size() || !fits(found)) {
                    return places;
                }
                places.add(found);
                present = found + 50;
                hunting = false;
                miss = false;
            } else if (!fits(present)) {
                return places;
            } else if (sight(present)) {
                places.add(present);
                miss = false;
                present += 50;
            } else if (!miss) {
                places.add(present);
                miss = true;
                present += 50;
            } else {
                hunting = true;
            }
        }
    }

    private int[] word(int place, int first) {
        int[] symbols = new int[7];
        for (int i = 0; i < 7; i++) {
            int j = 2 * i + first;
            int at = place + 8 + 3 * j;
            int value = 4 * line.get(at) + 2 * line.get(at + 1) + line.get(at + 2);
            symbols[i] = value ^ (j * j + 3 * j + 5) & 7;
        }
        return symbols;
    }

    int frames() {
        return received().size();
    }

    int place(int k) {
        List<Integer> places = received();
        return k < 0 || k >= places.size() ? BAD : places.get(k);
    }

    int message(int k) {
        int place = place(k);
        if (place == BAD) {
            return BAD;
        }
        int[] a = mend(word(place, 0));
        int[] b = mend(word(place, 1));
        if (a == null || b == null) {
            return LOST;
        }
        int number = 0;
        for (int m : new int[] {a[4], b[4], a[5], b[5], a[6], b[6]}) {
            number = 8 * number + m;
        }
        return number;
    }

    int mended(int k) {
        int place = place(k);
        if (place == BAD) {
            return BAD;
        }
        int changed = 0;
        for (int first = 0; first < 2; first++) {
            int[] symbols = word(place, first);
            int[] word = mend(symbols);
            changed += word == null ? 0 : distance(symbols, word);
        }
        return changed;
    }

    int good() {
        int n = 0;
        for (int k = 0; k < frames(); k++) {
            if (message(k) != LOST) {
                n++;
            }
        }
        return n;
    }
}
