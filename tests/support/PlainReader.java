/** Reads a puzzle text for the plain desk: it looks at a whole number before it judges it. */
final class PlainReader {
    private final String text;
    private final PlainDesk.Snapshot into;

    PlainReader(String text, PlainDesk.Snapshot into) {
        this.text = text;
        this.into = into;
    }

    /** The syntax error position, -1 if there is none. */
    int error() {
        for (int k = 0; k < 36; k++) {
            if (k >= text.length()) {
                return text.length();
            }
            char ch = text.charAt(k);
            if (".123456".indexOf(ch) < 0) {
                return k;
            }
            into.given[k] = ch == '.' ? 0 : ch - '0';
        }
        int at = 36;
        int number = 0;
        while (at < text.length()) {
            if (text.charAt(at) != ';') {
                return at;
            }
            at++;
            if (at == text.length()) {
                return at;
            }
            int kind = "kat".indexOf(text.charAt(at));
            if (kind < 0 || number == 8) {
                return at;
            }
            number++;
            at++;
            PlainDesk.Constraint c = new PlainDesk.Constraint();
            c.kind = kind;
            into.constraints.add(c);
            if (kind == 0) {
                int digits = digitsAt(at);
                int wrong = numberError(at, digits, 1, 24);
                if (wrong >= 0) {
                    return wrong;
                }
                c.sum = Integer.parseInt(text.substring(at, at + digits));
                at += digits;
            }
            int most = kind == 2 ? 6 : 4;
            while (true) {
                boolean enough = c.cells.size() >= 2;
                if (at == text.length()) {
                    if (enough) {
                        break;
                    }
                    return at;
                }
                if (text.charAt(at) == ';' && enough) {
                    break;
                }
                if (text.charAt(at) != ':' || c.cells.size() == most) {
                    return at;
                }
                at++;
                int digits = digitsAt(at);
                int wrong = numberError(at, digits, 0, 35);
                if (wrong >= 0) {
                    return wrong;
                }
                int cell = Integer.parseInt(text.substring(at, at + digits));
                if (c.cells.contains(cell)) {
                    return at;
                }
                c.cells.add(cell);
                at += digits;
            }
        }
        return -1;
    }

    private int digitsAt(int at) {
        int n = 0;
        while (at + n < text.length() && Character.isDigit(text.charAt(at + n))) {
            n++;
        }
        return n;
    }

    private int numberError(int at, int digits, int least, int greatest) {
        if (digits == 0) {
            return at;
        }
        if (digits > 2) {
            return at + 2;
        }
        int value = Integer.parseInt(text.substring(at, at + digits));
        return value < least || value > greatest ? at : -1;
    }
}
