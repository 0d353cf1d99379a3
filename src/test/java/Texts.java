import java.util.Random;

/** Random market texts, whole ones and spoilt ones. */
final class Texts {
    private final Random random;

    Texts(Random random) {
        this.random = random;
    }

    private int upTo(int n) {
        return random.nextInt(n + 1);
    }

    private String pick(String... words) {
        return words[random.nextInt(words.length)];
    }

    /** A market without a fault; busy ones have stalls and buyers that meet often. */
    String market() {
        StringBuilder text = new StringBuilder();
        int places = 2 + upTo(random.nextBoolean() ? 2 : 10);
        int minutes = 1 + upTo(random.nextBoolean() ? 59 : 14);
        text.append("market places ").append(places).append(" minutes ").append(minutes).append(gap());
        int rings = upTo(3);
        int stalls = rings == 0 ? 0 : upTo(8);
        int buyers = upTo(6);
        int goods = upTo(5);
        int slowest = random.nextInt(4) == 0 ? 60 : 5;
        int dearest = random.nextInt(3) == 0 ? 99 : 20;
        for (int r = 0; r < rings; r++) {
            text.append("ring turns ").append(upTo(slowest)).append(' ').append(pick("east", "west")).append(gap());
        }
        for (int s = 0; s < stalls; s++) {
            text.append("stall ").append(random.nextInt(rings)).append(" at ").append(random.nextInt(places))
                .append(" sells ").append(upTo(goods)).append(" pieces ").append(upTo(random.nextBoolean() ? 20 : 4))
                .append(" price ").append(upTo(dearest)).append(' ').append(kind()).append(gap());
        }
        for (int b = 0; b < buyers; b++) {
            text.append("buyer at ").append(random.nextInt(places)).append(" coins ")
                .append(upTo(random.nextBoolean() ? 999 : 60)).append(" habit ")
                .append(pick("eager", "thrifty", "slow")).append(gap());
            int shift = random.nextInt(6);
            int wants = Math.min(upTo(3), goods + 1);
            for (int w = 0; w < wants; w++) {
                text.append("wants ").append(b).append(' ').append((w + shift) % (goods + 1)).append(" pieces ")
                    .append(1 + upTo(8)).append(" limit ").append(upTo(dearest)).append(gap());
            }
        }
        int stucks = rings == 0 ? 0 : upTo(4);
        for (int i = 0; i < stucks; i++) {
            int from = random.nextInt(minutes);
            text.append("stuck ").append(random.nextInt(rings)).append(" from ").append(from).append(" to ")
                .append(from + random.nextInt(Math.min(minutes - from, 10))).append(gap());
        }
        return text.toString();
    }

    private String kind() {
        return pick("fixed", "falls " + (1 + upTo(19)), "falls 1", "learns " + (1 + upTo(19)), "learns 1");
    }

    private String gap() {
        return pick(";", "; ", " ;\n", "\n;  \n ");
    }

    /** A text with one to three changes somewhere; most have a fault. */
    String spoilt() {
        String text = market();
        for (int n = upTo(2); n >= 0; n--) {
            text = change(text);
        }
        return text.substring(0, Math.min(text.length(), 2000));
    }

    private String change(String text) {
        if (text.isEmpty()) {
            return pick("ring", ";", "7");
        }
        int i = random.nextInt(text.length());
        int j = Math.min(text.length(), i + 1 + upTo(random.nextBoolean() ? 2 : 30));
        String[] line = (text + " ").split(";");
        String again = line[random.nextInt(line.length)];
        switch (random.nextInt(7)) {
            case 0: return text.substring(0, i) + text.substring(j) + " ";
            case 1: return text.substring(0, i);
            case 2: return text.substring(0, i) + (char) random.nextInt(256) + text.substring(i);
            case 3: return text.substring(0, i) + text.substring(i, j) + text.substring(i);
            case 4: return text + again + ";";
            case 5: return text + again + ";" + again + pick(";", "", ";;") + text;
            default: return numberAt(text, i);
        }
    }

    /** Another number in place of the next one from a place on. */
    private String numberAt(String text, int from) {
        int i = from;
        while (i < text.length() && !Character.isDigit(text.charAt(i))) {
            i++;
        }
        int j = i;
        while (j < text.length() && Character.isDigit(text.charAt(j))) {
            j++;
        }
        String number = pick("0", "1", "2", "3", "5", "6", "7", "12", "13", "20", "21", "60", "61", "99", "100",
            "999", "1000", "0007", "4294967297", "99999999999999999999");
        return text.substring(0, i) + number + text.substring(j);
    }
}
