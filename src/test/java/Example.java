/** The program that README.md shows; ReadmeTest holds it and what it prints against that. */
public final class Example {
    static final int COURT = 0;
    static final int TRIAL = 1;
    static final int LAW = 2;
    static final int ROLL = 3;

    /** Feeds a text of at most 600 signs to an empty tape, twenty bytes a call, and takes it. */
    static int tell(OneEared x, int sort, int at, String text) {
        x.end(0);
        for (int i = 0; i < text.length(); i += 20) {
            x.feed(four(text, i), four(text, i + 4), four(text, i + 8), four(text, i + 12), four(text, i + 16));
        }
        x.end(text.length());
        return x.text(sort, at);
    }

    /** Four signs as one number, the first one highest; behind the text's end there are blanks. */
    static int four(String text, int from) {
        int number = 0;
        for (int i = from; i < from + 4; i++) {
            number = number << 8 | (i < text.length() ? text.charAt(i) : ' ');
        }
        return number;
    }

    public static void main(String[] args) {
        OneEared x = new OneEared();
        //   0  1  2  3     judge 0 on 0: left ear, faces east (1), reach 3, never turns (0)
        //   4  #  6  7     judge 1 on 11: right ear, faces north (0), reach 2, turns by 1
        //   8  9 10 11     pleader 0 on 8 with a twin on 3, pleader 1 on 2
        int court = tell(x, COURT, OneEared.NONE,
                "size 4 3; wall 5; left 0 1 3 0; right 11 0 2 1; plead 8; twin 0 3; plead 2;");
        int trial = tell(x, TRIAL, OneEared.NONE, "say 0 4 0; say 1 3 1; go 0 0; wait; say 0 4 3; go 1 3;");
        int law = tell(x, LAW, OneEared.NONE, "yes 3 -; no 4 3;");
        int roll = tell(x, ROLL, OneEared.NONE, "know 0 3; know 1 3;");
        System.out.println("told: " + court + " " + trial + " " + law + " " + roll + ", fault " + x.fault(0));

        System.out.println("far 8 2: " + x.far(court, 8, 2) + ", far 8 5, a wall: " + x.far(court, 8, 5));
        System.out.println("ears of 3 at hour 0 by loud 0, bits: " + x.ears(court, 3, 0, 0));
        System.out.println("judge 0 knows, bits: " + x.knows(court, trial, x.stop(court, trial), 0));
        System.out.println("verdict: " + x.votes(court, trial, law, OneEared.NONE));
        System.out.println("false claims, bits: " + x.lips(court, trial, roll, 2));

        int hours = x.round(court, 1, 0, 0);
        StringBuilder way = new StringBuilder();
        for (int i = 0; i < hours; i++) {
            way.append(' ').append(x.round(court, 1, 0, 10 + i));
        }
        System.out.println("round of pleader 1: " + hours + " hours," + way);

        int faulty = tell(x, COURT, OneEared.NONE, "size 4 3; wall 3 99;");
        System.out.println("a faulty court: " + faulty + ", fault " + x.fault(0) + " at " + x.fault(1));

        System.out.println("image 0: " + x.image(0));
        System.out.println("court in the place of 0: " + tell(x, COURT, 0, "size 2 2;") + ", W " + x.court(0, 0));
        System.out.println("again 0: " + x.again(0) + ", W " + x.court(0, 0) + ", fault " + x.fault(0));
        System.out.println("again 1: " + x.again(1) + "; pleader 1's twin: " + x.pleader(0, 1, true)
                + ", pleader 2's: " + x.pleader(0, 2, true));
    }
}
