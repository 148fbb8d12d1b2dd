/** Every short text of a few signs, on the class and on the model, but such as have a fault long before their end. */
public final class ShortTextsTest {
    private static final int MOST_CALLS = 512;
    private static final int MOST_ASKED_OF_A_TEXT = 60;

    /** A call that reads a text, and what is looked at when the text has no fault. */
    private abstract static class Reading {
        WolfKnight x;
        Model m;
        private int calls = MOST_CALLS;

        abstract int ofClass(int n);

        abstract int ofModel(int n);

        abstract void look(String text, int answer);

        private void begin() {
            x = Due.row(3);
            m = new Model();
            for (int p = 0; p < 3; p++) {
                m.place(p);
            }
            m.next(0, 1, true);
            m.next(1, 2, true);
            for (int k = 0; k < 2; k++) {
                x.knight(k, k, 7);
                m.knight(k, k, 7);
            }
            calls = 7;
            feed("b+");
            x.diary(2);
            m.diary(2);
        }

        final void feed(String text) {
            for (int from = 0; from < text.length(); from += 20) {
                int[] five = new int[5];
                for (int i = 0; i < 20; i++) {
                    five[i / 4] = five[i / 4] << 8 | (from + i < text.length() ? text.charAt(from + i) : 0);
                }
                x.feed(five[0], five[1], five[2], five[3], five[4]);
                m.feed(five[0], five[1], five[2], five[3], five[4]);
                calls++;
            }
        }

        final void same(String call, int got, int want) {
            calls++;
            Due.is(call, want, got);
        }

        /** What the text is answered with, on an object that no text before has changed. */
        final int ask(String text) {
            if (calls > MOST_CALLS - MOST_ASKED_OF_A_TEXT) {
                begin();
            }
            feed(text);
            int answer = ofClass(text.length());
            same(text, answer, ofModel(text.length()));
            if (answer >= 0) {
                look(text, answer);
                calls = MOST_CALLS;
            }
            return answer;
        }

        /** All texts that begin so, up to a length, each also with an end behind it. */
        final void askAll(String start, String signs, int longest, String end) {
            int answer = ask(start);
            if (!end.isEmpty()) {
                ask(start + end);
            }
            boolean unended = answer == -1000 - start.length();
            if (start.length() >= longest || answer < 0 && !unended) {
                return;
            }
            for (char sign : signs.toCharArray()) {
                askAll(start + sign, signs, longest, end);
            }
        }

        final void askAll(String signs, int longest) {
            for (char sign : signs.toCharArray()) {
                askAll(String.valueOf(sign), signs, longest, "");
            }
        }
    }

    private static final class Hunts extends Reading {
        @Override
        int ofClass(int n) {
            return x.hunts(1, n);
        }

        @Override
        int ofModel(int n) {
            return m.hunts(1, n);
        }

        @Override
        void look(String text, int answer) {
            same(text + " count", x.count(41), m.count(41));
            for (int t = 0; t <= answer; t++) {
                same(text + " hunted " + t, x.hunted(1, t), m.hunted(1, t));
            }
        }
    }

    private static final class Diary extends Reading {
        @Override
        int ofClass(int n) {
            return x.diary(n);
        }

        @Override
        int ofModel(int n) {
            return m.diary(n);
        }

        @Override
        void look(String text, int answer) {
            for (int k = 0; k < 2; k++) {
                for (int what = 0; what < 5; what++) {
                    same(text + " knight " + k, x.knightIs(k, what), m.knightIs(k, what));
                }
            }
        }
    }

    private static final class Law extends Reading {
        @Override
        int ofClass(int n) {
            return x.law(n);
        }

        @Override
        int ofModel(int n) {
            return m.law(n);
        }

        @Override
        void look(String text, int answer) {
            same(text + " count", x.count(6), m.count(6));
            for (int k = 0; k < 2; k++) {
                for (int p = 0; p < 3; p++) {
                    same(text + " likes " + k + " " + p, x.likes(k, p), m.likes(k, p));
                }
            }
            same(text + " taken", x.tried(5, 3), m.tried(5, 3));
        }
    }

    private static final class Boots extends Reading {
        @Override
        int ofClass(int n) {
            return x.boots(1, n, 1);
        }

        @Override
        int ofModel(int n) {
            return m.boots(1, n, 1);
        }

        @Override
        void look(String text, int answer) {
            feed(text);
            same(text + " places", x.boots(1, text.length(), 0), m.boots(1, text.length(), 0));
        }
    }

    private static final class Absences extends Reading {
        @Override
        int ofClass(int n) {
            return x.absences(n, 0);
        }

        @Override
        int ofModel(int n) {
            return m.absences(n, 0);
        }

        @Override
        void look(String text, int answer) {
            for (int what = 1; what < 3; what++) {
                feed(text);
                same(text + " " + what, x.absences(text.length(), what), m.absences(text.length(), what));
            }
        }
    }

    private ShortTextsTest() {
    }

    public static void main(String[] args) {
        new Hunts().askAll("h.29()1", 7);
        new Hunts().askAll("h9(),", 10);
        new Diary().askAll("ab>@+-012;", 7);
        new Diary().askAll("b>1@+-;", 11);
        new Law().askAll("es(1k<!&[];+/)", 8);
        new Law().askAll("e", "0p9+*/%-[]", 7, "(1=1)");
        new Law().askAll("e", "7w+*/-[", 8, "w]-2(1=1)");
        new Law().askAll("e8(", "1p=/&|!<()", 9, "=0)");
        new Law().askAll("h9(p=", "1&|!()", 12, "=1)");
        new Law().askAll("e6(", "0=p&|!;es)", 9, "(k=1)");
        new Boots().askAll("aBcm?D", 5);
        new Absences().askAll("pa?P", 8);
        Due.close("ShortTextsTest");
    }
}
