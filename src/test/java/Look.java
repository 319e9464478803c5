/** All that a road tells of itself, as one text, to compare two roads. */
final class Look {
    private Look() {
    }

    static String at(WinterRoad x) {
        StringBuilder s = new StringBuilder("about");
        for (int what = 0; what <= 11; what++) {
            s.append(' ').append(x.about(what));
        }
        for (int c = 0; c < x.about(5); c++) {
            s.append("; convoy");
            for (int what = 0; what <= 7; what++) {
                s.append(' ').append(x.convoy(c, what));
            }
            for (int i = 0; i < x.convoy(c, 1); i++) {
                s.append(i == 0 ? " of " : " ").append(x.member(c, i));
            }
        }
        for (int v = 0; v < x.about(6); v++) {
            s.append("; vehicle");
            for (int what = 0; what <= 6; what++) {
                s.append(' ').append(x.vehicle(v, what));
            }
        }
        return s.append(places(x)).toString();
    }

    private static StringBuilder places(WinterRoad x) {
        StringBuilder s = new StringBuilder();
        for (int g = 0; g < x.about(2); g++) {
            s.append("; gate");
            for (int what = 0; what <= 5; what++) {
                s.append(' ').append(x.gate(g, what));
            }
        }
        for (int b = 0; b < x.about(3); b++) {
            s.append("; bay");
            for (int what = 0; what <= 3; what++) {
                s.append(' ').append(x.bay(b, what));
            }
        }
        for (int d = 0; d < x.about(4); d++) {
            s.append("; depot ").append(x.depot(d, 0)).append(' ').append(x.depot(d, 1));
        }
        return s;
    }
}
