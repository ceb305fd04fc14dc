/** Texts of counties: places pa, pb .., persons qa .., otters oa .., writs wa .. */
final class Tell {
    private Tell() {
    }

    static String name(char sort, int number) {
        return "" + sort + (char) ('a' + number);
    }

    static String places(int... water) {
        StringBuilder s = new StringBuilder();
        for (int i = 0; i < water.length; i++) {
            s.append("place ").append(name('p', i)).append(" water ").append(water[i]).append(";");
        }
        return s.toString();
    }

    /** Streams by the numbers of their ends, two by two. */
    static String streams(int... ends) {
        StringBuilder s = new StringBuilder();
        for (int i = 0; i + 1 < ends.length; i += 2) {
            s.append("stream ").append(name('p', ends[i])).append(" ").append(name('p', ends[i + 1])).append(";");
        }
        return s.toString();
    }

    /** Persons as "plain 0": the kind, and the number of the place. */
    static String persons(String... each) {
        StringBuilder s = new StringBuilder();
        for (int i = 0; i < each.length; i++) {
            String[] words = each[i].split(" ");
            s.append("person ").append(name('q', i)).append(" ").append(words[0]).append(" in ")
                    .append(name('p', Integer.parseInt(words[1]))).append(";");
        }
        return s.toString();
    }

    /** Otters by the number of their place and their pace, two by two. */
    static String otters(int... each) {
        StringBuilder s = new StringBuilder();
        for (int i = 0; i + 1 < each.length; i += 2) {
            s.append("otter ").append(name('o', i / 2)).append(" in ").append(name('p', each[i])).append(" pace ")
                    .append(each[i + 1]).append(";");
        }
        return s.toString();
    }

    /** Writs by the number of their person and their day, two by two. */
    static String writs(int... each) {
        StringBuilder s = new StringBuilder();
        for (int i = 0; i + 1 < each.length; i += 2) {
            s.append("writ ").append(name('w', i / 2)).append(" for ").append(name('q', each[i])).append(" by ")
                    .append(each[i + 1]).append(";");
        }
        return s.toString();
    }

    static String times(String text, int often) {
        StringBuilder s = new StringBuilder();
        for (int i = 0; i < often; i++) {
            s.append(text);
        }
        return s.toString();
    }

    /** As much of everything as can be told. */
    static String full() {
        return places(1, 2, 3, 4, 5, 6, 0) + streams(0, 1, 0, 2, 0, 3, 0, 4, 0, 5, 0, 6, 1, 2, 2, 3, 3, 4, 4, 5)
                + persons("plain 0", "wary 1", "bather 2", "dewy 3", "plain 6") + otters(0, 1, 0, 2, 1, 3)
                + writs(0, 0, 0, 60, 1, 1, 2, 2, 3, 3, 4, 4) + "rain 0 1 2 3 4 5 6 7 8 9 0 2;wets level+falls-ways;";
    }
}
