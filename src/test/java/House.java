/** The houses in which boundaries are tried, each made by calls alone. */
enum House {
    /** Nothing is there. */
    NEW {
        @Override
        void fill(Dotpress house) {
        }
    },

    /** Two texts without words are there, the first of which was embossed when it had some. */
    WORDLESS {
        @Override
        void fill(Dotpress house) {
            for (int i = 0; i < 4; i++) {
                Check.addRule(house, fullRule(i), 1, 1 + i, 0);
            }
            Check.turnException(house, "ab");
            Check.setText(house, 0, 1, "a ab");
            house.emboss(0);
            Check.setText(house, 0, 1, "  ");
            Check.setText(house, 1, 2, "");
        }
    },

    /** Pin 1 has all the strikes that it bears, and text 1 would strike it once more. */
    WORN {
        @Override
        void fill(Dotpress house) {
            Check.addRule(house, "a", 1, 1, 0);
            Check.addRule(house, "b", 1, 2, 0);
            Check.setText(house, 0, 1, "aaaaaaaaaa b");
            house.emboss(0);
            house.setBearing(10);
            house.setWidth(8);
            Check.setText(house, 1, 2, "bbbb bbbb a");
            house.mark(0, 1, 1, true);
        }
    },

    /** Something of everything is there, nothing is full, and text 1 became another. */
    USED {
        @Override
        void fill(Dotpress house) {
            Check.addRule(house, "b", 2, 5, 0);
            Check.addRule(house, "abcd", 1, 4, 0);
            Check.addRule(house, "ab", 2, 2, 3);
            Check.addRule(house, "a", 1, 1, 0);
            Check.turnException(house, "abab");
            house.setWidth(9);
            house.setBearing(300);
            Check.setText(house, 0, 1, "abcd ab abab");
            Check.setText(house, 1, 2, "ab  abab b abcdabcdabcd zz b");
            house.setText(2, 1);
            house.emboss(0);
            house.emboss(1);
            house.replace(3);
            Check.mend(house, "b", 2, 6, 7);
            house.mark(0, 0, 0, true);
            house.mark(1, 0, 0, true);
            house.mark(0, 0, 2, false);
            house.mark(1, 1, 1, false);
        }
    },

    /** The rules alone are full. */
    RULED {
        @Override
        void fill(Dotpress house) {
            for (int i = 0; i < 40; i++) {
                Check.addRule(house, fullRule(i), 1 + i % 2, 1 + i, 0);
            }
            Check.setText(house, 0, 1, "a za");
        }
    },

    /** The exceptions alone are full. */
    EXCEPTED {
        @Override
        void fill(Dotpress house) {
            for (int i = 0; i < 20; i++) {
                Check.turnException(house, fullException(i));
            }
            Check.setText(house, 0, 1, "xa b");
        }
    },

    /** Rules, exceptions and texts are full, and pin 1 has all the strikes that it bears. */
    FULL {
        @Override
        void fill(Dotpress house) {
            for (int i = 0; i < 40; i++) {
                Check.addRule(house, fullRule(i), 1 + i % 2, 1 + i, i % 3 == 0 ? 0 : 63 - i);
            }
            for (int i = 0; i < 20; i++) {
                Check.turnException(house, fullException(i));
            }
            house.setWidth(8);
            house.setBearing(10);
            Check.setText(house, 0, 1, "aaaaaaaaaa");
            Check.setText(house, 1, 1, "a za");
            Check.setText(house, 2, 2, "");
            Check.setText(house, 3, 2, "xa zb");
            Check.setText(house, 4, 1, "bb");
            Check.setText(house, 5, 2, "c d e");
            house.emboss(0);
            house.mark(0, 1, 0, true);
            house.mark(1, 1, 0, true);
            house.mark(0, 5, 2, false);
        }
    };

    /** The rules of the full house in their order: a to z, then za to zn. */
    static String fullRule(int place) {
        return place < 26 ? "" + (char) ('a' + place) : "z" + (char) ('a' + place - 26);
    }

    /** The exceptions of the full house: xa to xt. */
    static String fullException(int number) {
        return "x" + (char) ('a' + number);
    }

    abstract void fill(Dotpress house);

    Dotpress make() {
        return makeWith("");
    }

    /** The house, with these letters and blanks in the buffer. */
    Dotpress makeWith(String letters) {
        Dotpress house = new Dotpress();
        fill(house);
        Check.typeAll(house, letters);
        return house;
    }
}
