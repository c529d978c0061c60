/** Counts the answers that aren't as due; support for the tests of the project. */
final class Check {
    private static int wrong = 0;
    private static int seen = 0;
    private static String promise = "";

    private Check() {
    }

    static void promise(int number, String name) {
        promise = "promise " + number + " (" + name + ")";
    }

    static void due(String call, long got, long want) {
        seen++;
        if (got != want) {
            wrong++;
            System.out.println(promise + ": " + call + " answered " + got + ", due is " + want);
        }
    }

    static void holds(String what, boolean holds) {
        due(what, holds ? 1 : 0, 1);
    }

    static void end() {
        System.out.println(seen + " answers looked at, " + wrong + " not as due");
        if (wrong != 0) {
            System.exit(1);
        }
    }

    /** Feeds a text, filled up with blanks to whole twenties. */
    static void feed(RaftHold x, String text) {
        for (int i = 0; i < text.length(); i += 20) {
            int[] words = new int[5];
            for (int k = 0; k < 20; k++) {
                int sign = i + k < text.length() ? text.charAt(i + k) & 255 : 32;
                words[k / 4] = words[k / 4] << 8 | sign;
            }
            x.feed(words[0], words[1], words[2], words[3], words[4]);
        }
    }

    static int tell(RaftHold x, String text) {
        feed(x, text);
        return x.raft(text.length());
    }

    static RaftHold raft(String text) {
        RaftHold x = new RaftHold();
        int lines = tell(x, text);
        if (lines < 1) {
            due("raft of \"" + text + "\"", lines, 1);
        }
        return x;
    }

    /** Puts numbers of 64 bits into a tray. */
    static void tray(RaftHold x, int tray, long... numbers) {
        due("numbers", x.numbers(tray, 3, numbers.length), 0);
        for (int i = 0; i < numbers.length; i++) {
            due("write", x.write(tray, i, numbers[i]), numbers[i]);
        }
    }
}
