import java.util.Random;

/** Makes CHUNKS, PACK and ROWS files as texts whose signs are bytes. */
final class Formats {
    private Formats() {
    }

    static String low(long v, int n) {
        StringBuilder s = new StringBuilder();
        for (int i = 0; i < n; i++) s.append((char) (v >>> 8 * i & 255));
        return s.toString();
    }

    static String high(long v, int n) {
        return new StringBuilder(low(v, n)).reverse().toString();
    }

    static String chunk(String letters, String bytes) {
        return high(bytes.length(), 2) + letters + bytes + high(Kit.crc(Kit.raw(letters + bytes)), 4);
    }

    static String chunks(String... pieces) {
        StringBuilder s = new StringBuilder("\u0089CH\n");
        for (String piece : pieces) s.append(piece);
        return s.toString();
    }

    static String entry(String name, String bytes, long seconds) {
        return "PK\3\4" + low(name.length(), 1) + name + low(bytes.length(), 2) + low(Kit.crc(Kit.raw(bytes)), 4) + low(seconds, 4) + bytes;
    }

    /** A PACK file of names and bytes, one behind the other; the seconds are 100, 200, .. */
    static String pack(String... namesAndBytes) {
        StringBuilder s = new StringBuilder();
        StringBuilder rows = new StringBuilder();
        int n = namesAndBytes.length / 2;
        for (int i = 0; i < n; i++) {
            String name = namesAndBytes[2 * i];
            rows.append("PK\1\2").append(low(name.length(), 1)).append(name).append(low(s.length(), 2));
            s.append(entry(name, namesAndBytes[2 * i + 1], 100 * (i + 1)));
        }
        int first = s.length();
        return s.append(rows).append("PK\5\6").append(low(n, 1)).append(low(first, 2)).toString();
    }

    /** A page of rows, each put where the text says nothing else: k, the places, then the rows. */
    static String page(String... rows) {
        StringBuilder places = new StringBuilder();
        StringBuilder bytes = new StringBuilder();
        for (String row : rows) {
            places.append((char) (1 + rows.length + bytes.length()));
            bytes.append(row);
        }
        StringBuilder page = new StringBuilder().append((char) rows.length).append(places).append(bytes);
        while (page.length() < 60) page.append('\0');
        return page.toString();
    }

    static String rows(int columns, String... pages) {
        StringBuilder s = new StringBuilder("RT").append((char) columns).append('\0');
        for (String page : pages) s.append(page);
        return s.toString();
    }

    /** One of them, sometimes damaged. */
    static String any(Random r) {
        String s;
        switch (r.nextInt(4)) {
            case 0: s = chunks(chunk("abCD", Kit.many('x', r.nextInt(90))), chunk("tIME", high(r.nextInt(), 4)), chunk("IEND", "")); break;
            case 1: s = pack("one", Kit.many('y', r.nextInt(80)), "two", pack("in", "z")); break;
            case 2: s = rows(2, page("\1a\0", "\2abcd\3\2xy"), page("\0\1b")); break;
            default: s = pack("only", chunks(chunk("IEND", ""))); break;
        }
        if (r.nextInt(3) != 0) return s;
        StringBuilder damaged = new StringBuilder(s);
        for (int i = 0; i < 2; i++) damaged.setCharAt(r.nextInt(damaged.length()), (char) r.nextInt(256));
        return damaged.toString();
    }
}
