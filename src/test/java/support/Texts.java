import java.util.Random;

/** Random texts of rafts, right ones and damaged ones. */
final class Texts {
    private static final String[] SHARED = {"all", "storm", "bears", "weight"};
    private static final String[] LETS = {"who", "near", "gone"};
    private static final String[] WORDS = {"raft", "quota", "holder", "bears", "weight", "loose", "votes", "likes",
        "by", "quarrel", "storm", "lets", "floats", "not", "and", "or", "all", "who", "near", "gone", "parts", "wet",
        ";", ":", "+", "-", "*", "(", ")", "[", "]", "=", "<", ">", "0", "1", "7", "9", "10", "99", "100", "999",
        "1000", "A", "#", "\t", "\r", ",", "\u00e9", "\u0000"};

    private final Random random;

    Texts(Random random) {
        this.random = random;
    }

    private String blank() {
        int k = random.nextInt(12);
        return k == 0 ? "\n" : k == 1 ? "  " : " ";
    }

    private String maybe() {
        return random.nextInt(3) == 0 ? blank() : "";
    }

    String raft(int most) {
        StringBuilder s = new StringBuilder(maybe() + "raft quota " + (1 + random.nextInt(random.nextInt(4) == 0 ? 99 : 12)) + maybe() + ";");
        int people = random.nextInt(most + 1);
        for (int p = 0; p < people; p++) {
            s.append(holder());
            if (p > 0 && random.nextInt(8) == 0) {
                s.append(pair("by", p + 1));
            }
        }
        int more = random.nextInt(10);
        for (int i = 0; i < more && people > 1; i++) {
            s.append(pair(random.nextInt(3) > 0 ? "by" : "quarrel", people));
        }
        if (random.nextInt(2) == 0) {
            s.append("storm").append(blank()).append(random.nextInt(10)).append(maybe()).append(";");
        }
        if (random.nextInt(5) > 0) {
            s.append("lets").append(maybe()).append(":").append(maybe()).append(truth(0, true)).append(";");
        }
        if (random.nextInt(5) > 1) {
            s.append("floats").append(maybe()).append(":").append(maybe()).append(truth(0, false)).append(";");
        }
        if (random.nextInt(9) == 0) {
            s.append("lets:").append(truth(0, true)).append(";storm 3;");
        }
        if (random.nextInt(7) == 0) {
            s.append(blank());
        }
        return s.length() <= 900 ? s.toString() : raft(most - 1);
    }

    /** Six to eight people with ties drawn one by one, from few to all, a storm and mostly both laws. */
    String crowd() {
        int people = 6 + random.nextInt(3);
        StringBuilder s = new StringBuilder("raft quota ").append(1 + random.nextInt(24)).append(";");
        for (int p = 0; p < people; p++) {
            s.append(holder());
        }
        ties(s, "by", people, random.nextInt(11));
        ties(s, "quarrel", people, random.nextInt(11));
        s.append("storm ").append(random.nextInt(10)).append(";");
        if (random.nextInt(6) > 0) {
            s.append("lets:").append(truth(3, true)).append(";");
        }
        if (random.nextInt(3) > 0) {
            s.append("floats:").append(truth(3, false)).append(";");
        }
        return s.length() <= 900 ? s.toString() : crowd();
    }

    private void ties(StringBuilder s, String word, int people, int tenths) {
        for (int p = 0; p < people; p++) {
            for (int q = 0; q < p; q++) {
                if (random.nextInt(10) < tenths) {
                    s.append(word).append(' ').append(q).append(' ').append(p).append(';');
                }
            }
        }
    }

    private String pair(String word, int people) {
        int p = random.nextInt(people);
        int q = (p + 1 + random.nextInt(people - 1)) % people;
        return maybe() + word + blank() + p + blank() + q + maybe() + ";";
    }

    private String holder() {
        StringBuilder s = new StringBuilder(maybe() + "holder" + blank() + "bears" + maybe() + random.nextInt(10) + maybe() + "weight"
            + maybe() + random.nextInt(random.nextInt(2) == 0 ? 4 : 10));
        for (int i = random.nextInt(4); i > 0; i--) {
            int k = random.nextInt(5);
            if (k == 0) {
                s.append(" loose");
            } else if (k < 3) {
                s.append(" votes ").append(random.nextInt(10));
            } else {
                s.append(" likes ").append(random.nextInt(10)).append(' ').append(random.nextInt(10)).append(blank()).append(random.nextInt(10));
            }
        }
        return s.append(maybe()).append(";").toString();
    }

    private String truth(int deep, boolean lets) {
        StringBuilder s = new StringBuilder(unit(deep, lets));
        for (int i = random.nextInt(3); i > 0; i--) {
            s.append(random.nextInt(2) == 0 ? " and " : " or ").append(unit(deep, lets));
        }
        return s.toString();
    }

    private String unit(int deep, boolean lets) {
        int k = deep >= 6 ? 9 : random.nextInt(8);
        if (k == 0) {
            return "not " + unit(deep + 1, lets);
        }
        if (k == 1) {
            return "[" + maybe() + truth(deep + 1, lets) + maybe() + "]";
        }
        return sum(deep, lets) + maybe() + "=<>".charAt(random.nextInt(3)) + maybe() + sum(deep, lets);
    }

    private String sum(int deep, boolean lets) {
        StringBuilder s = new StringBuilder(atom(deep, lets));
        for (int i = Math.max(0, random.nextInt(5) - 2); i > 0; i--) {
            s.append(maybe()).append("+-*".charAt(random.nextInt(3))).append(maybe()).append(atom(deep, lets));
        }
        return s.toString();
    }

    private String atom(int deep, boolean lets) {
        int k = random.nextInt(9);
        if (k == 0 && deep < 6) {
            return "(" + sum(deep + 1, lets) + ")";
        }
        if (k < 4) {
            int size = random.nextInt(12);
            return Integer.toString(random.nextInt(size == 0 ? 1000 : size < 4 ? 30 : 6));
        }
        if (k < 7) {
            return lets ? LETS[random.nextInt(3)] : random.nextInt(2) == 0 ? "parts" : "bears";
        }
        return SHARED[random.nextInt(4)];
    }

    /** One or two tokens or signs of a right text are lost, doubled, put in or changed. */
    String damaged(String text) {
        StringBuilder s = new StringBuilder(text);
        for (int i = 1 + random.nextInt(2); i > 0 && s.length() > 0; i--) {
            int at = random.nextInt(s.length());
            int to = Math.min(s.length(), at + 1 + random.nextInt(6));
            switch (random.nextInt(6)) {
                case 0 -> s.delete(at, to);
                case 1 -> s.insert(at, " " + WORDS[random.nextInt(WORDS.length)] + " ");
                case 2 -> s.replace(at, to, WORDS[random.nextInt(WORDS.length)]);
                case 3 -> s.insert(at, s.substring(at, to));
                case 4 -> s.setLength(at);
                default -> s.setCharAt(at, (char) (random.nextInt(3) == 0 ? random.nextInt(256) : WORDS[random.nextInt(WORDS.length)].charAt(0)));
            }
        }
        if (s.length() > 900) {
            s.setLength(900);
        }
        return s.toString();
    }

    /** A row of tokens out of which laws are made, mostly wrong early or late. */
    String heap() {
        StringBuilder s = new StringBuilder("raft quota 1;holder bears 1 weight 1;").append(random.nextInt(2) == 0 ? "lets:" : "floats:");
        for (int i = random.nextInt(14); i >= 0; i--) {
            int k = random.nextInt(12);
            s.append(k < 3 ? " not" : k < 5 ? "[" : k < 7 ? "(" : k < 9 ? " 1" : k == 9 ? "=" : k == 10 ? "+" : WORDS[random.nextInt(WORDS.length)]);
        }
        return s.append(random.nextInt(3) == 0 ? "" : ";").toString();
    }
}
