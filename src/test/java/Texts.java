import java.util.Random;

/** Texts for runs against the oracle; from one seed always the same. */
final class Texts {
    private final Random dice;

    Texts(Random dice) {
        this.dice = dice;
    }

    private int up(int low, int high) {
        return low + dice.nextInt(high - low + 1);
    }

    private boolean oneOf(int n) {
        return dice.nextInt(n) == 0;
    }

    /** At most so many cells (shops times days); small places and prices make like costs common. */
    String any(int mostCells) {
        StringBuilder text = new StringBuilder();
        int days = up(1, 14);
        int shops = Math.min(up(oneOf(20) ? 0 : 1, 6), mostCells / days);
        boolean small = oneOf(2);
        int side = small && !oneOf(3) ? up(1, 4) : 30;
        int carries = oneOf(6) ? 60 : small ? up(5, 30) : up(10, 99);
        text.append("days ").append(days).append(oneOf(3) ? ";" : " ;\n");
        if (oneOf(2)) {
            text.append("depot").append(up(0, side)).append(' ').append(up(0, side)).append(';');
        }
        if (carries != 60 || oneOf(2)) {
            text.append("truck ").append(carries);
            text.append(oneOf(2) ? " fixed" + (small ? up(0, 3) : up(0, 99)) : "");
            text.append(oneOf(2) ? " mile " + up(0, small ? 2 : 9) : "").append(";\n");
        }
        text.append(oneOf(2) ? "hold " + up(0, small ? 2 : 9) + ";" : "");
        text.append(oneOf(2) ? "lost " + up(0, small ? 9 : 99) + ";" : "");
        for (int s = 0; s < shops; s++) {
            shopLine(text, s, side, carries);
        }
        int rushes = shops == 0 || oneOf(2) ? 0 : up(1, 12);
        for (int r = 0; r < rushes && text.length() < 780; r++) {
            text.append("rush ").append((char) ('a' + up(0, shops - 1))).append(' ').append(up(0, days - 1));
            text.append(' ').append(up(1, oneOf(3) ? 60 : 6)).append(';');
        }
        return text.toString();
    }

    private void shopLine(StringBuilder text, int shop, int side, int carries) {
        int shelf = oneOf(3) ? carries : up(1, carries);
        text.append("shop ").append((char) ('a' + shop)).append(" at ").append(up(0, side)).append(' ');
        text.append(up(0, side)).append(" shelf").append(shelf).append(" stock").append(up(0, shelf));
        text.append(" sells");
        int count = up(1, 7);
        int most = Math.min(30, oneOf(4) ? 30 : Math.max(1, shelf / 2));
        for (int i = 0; i < count; i++) {
            text.append(' ').append(up(0, most));
        }
        text.append(" ;");
    }

    private static final String[] SCRAPS = {";", " ", "\n", "days 3;", "days", "depot 1 2;", "truck", "truck 9;",
        "fixed", " fixed 3 ", "mile", " mile 2 ", "hold", "hold 2;", "lost", "lost 5;", "shop ", " at ", "shelf",
        "stock", "sells", "rush ", "rush a 0 1;", "abcdef", "abcdefg", "a", "x", "0", "7", "30", "31", "60", "61",
        "99", "100", "12a", "1 ", "A", "!", "\u0000", "\u00e9", "\u007f", "\t", "\r", "00", "01", "015",
        "shop z at 1 1 shelf 5 stock 2 sells 1;", "shop q at 30 30 shelf 1 stock 0 sells 1 2 3 4 5 6 7;"};

    /** A text with something taken out of it, put into it or told again. */
    String spoilt(String whole) {
        StringBuilder text = new StringBuilder(whole);
        int times = up(1, 3);
        for (int i = 0; i < times; i++) {
            int from = up(0, text.length());
            int to = Math.min(text.length(), from + up(1, oneOf(4) ? 30 : 3));
            switch (up(0, 7)) {
                case 0 -> text.delete(from, to);
                case 1 -> text.insert(from, SCRAPS[up(0, SCRAPS.length - 1)]);
                case 2 -> text.replace(from, to, SCRAPS[up(0, SCRAPS.length - 1)]);
                case 3 -> text.insert(up(0, text.length()), text.substring(from, to));
                case 4 -> text.append(SCRAPS[up(0, SCRAPS.length - 1)]);
                case 5 -> lineAgain(text, 1);
                case 6 -> lineAgain(text, up(1, 8));
                default -> numberChanged(text);
            }
        }
        return text.substring(0, Math.min(800, text.length()));
    }

    /** A line that is there comes again, behind another one; a shop may have another name then. */
    private void lineAgain(StringBuilder text, int times) {
        String[] lines = text.toString().split(";");
        String line = lines[up(0, lines.length - 1)] + ";";
        int behind = text.indexOf(";", up(0, text.length()));
        for (int i = 0; i < times; i++) {
            String named = oneOf(4) ? line : line.replaceFirst("shop [a-z]+", "shop " + (char) ('g' + i));
            text.insert(behind + 1, named);
        }
    }

    private void numberChanged(StringBuilder text) {
        int at = up(0, text.length());
        while (at < text.length() && !Character.isDigit(text.charAt(at))) {
            at++;
        }
        int end = at;
        while (end < text.length() && Character.isDigit(text.charAt(end))) {
            end++;
        }
        text.replace(at, end, String.valueOf(up(0, oneOf(4) ? 120 : 40)));
    }
}
