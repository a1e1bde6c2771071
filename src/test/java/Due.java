/** Counts the calls whose answer is not the one that is due, and prints each. */
final class Due {
    private int asked = 0;
    private int wrong = 0;
    private String topic = "";

    void topic(String name) {
        topic = name;
    }

    void is(String call, long got, long want) {
        asked++;
        if (got != want) {
            wrong++;
            if (wrong <= 50) {
                System.out.println(topic + ": " + call + " answered " + got + ", due is " + want);
            }
        }
    }

    void holds(String what, boolean true_) {
        is(what, true_ ? 1 : 0, 1);
    }

    boolean anyWrong() {
        return wrong > 0;
    }

    void end() {
        System.out.println(asked + " answers looked at, " + wrong + " not as due");
        if (wrong > 0 || asked == 0) {
            System.exit(1);
        }
    }
}
