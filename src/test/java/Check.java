/** Counts answers that are not as due, and brings texts to a tape. */
final class Check {
    private int wrong = 0;
    private int asked = 0;
    private String about = "";

    void about(String promise) {
        about = promise;
    }

    void due(String call, int got, int want) {
        asked++;
        if (got != want) {
            wrong++;
            System.out.println(about + ": " + call + " answered " + got + ", due is " + want);
        }
    }

    /** The text alone on the tape. */
    void tape(StayPlay play, String text) {
        play.end(0);
        StringBuilder padded = new StringBuilder(text);
        while (padded.length() % 20 != 0) {
            padded.append(' ');
        }
        for (int i = 0; i < padded.length(); i += 20) {
            int[] n = new int[5];
            for (int j = 0; j < 20; j++) {
                n[j / 4] = n[j / 4] << 8 | padded.charAt(i + j);
            }
            play.feed(n[0], n[1], n[2], n[3], n[4]);
        }
        due("end(" + text.length() + ")", play.end(text.length()), text.length());
    }

    int law(StayPlay play, String text) {
        tape(play, text);
        return play.law();
    }

    /** A law that is read and in force. */
    void force(StayPlay play, String text) {
        int number = law(play, text);
        due("law " + text + " has no fault", play.fault(), -1);
        play.force(number);
    }

    void end(String name) {
        System.out.println(name + ": " + wrong + " of " + asked + " answers are not as due");
        if (wrong != 0) {
            System.exit(1);
        }
    }
}
