/** One call of the class, told as text ("add 5 7"), so that a run of calls can be done again. */
record Call(String name, int one, int two, int three) {
    static Call of(String text) {
        String[] words = text.trim().split(" +");
        return new Call(words[0], argument(words, 1), argument(words, 2), argument(words, 3));
    }

    private static int argument(String[] words, int place) {
        return place < words.length ? number(words[place]) : 0;
    }

    /** A number (bits begin with 0b), true or false, or the name of a constant. */
    static int number(String word) {
        switch (word) {
            case "UNKNOWN": return BranchedSums.UNKNOWN;
            case "BAD_VALUE": return BranchedSums.BAD_VALUE;
            case "FULL": return BranchedSums.FULL;
            case "NOT_POSSIBLE": return BranchedSums.NOT_POSSIBLE;
            case "NONE": return BranchedSums.NONE;
            case "true": return 1;
            case "false": return 0;
            case "least": return Integer.MIN_VALUE;
            case "most": return Integer.MAX_VALUE;
            default: return word.startsWith("0b") ? Integer.parseInt(word.substring(2), 2) : Integer.parseInt(word);
        }
    }

    int on(BranchedSums sums) {
        switch (name) {
            case "add": return sums.add(one, two);
            case "addAll": return sums.addAll();
            case "remove": return sums.remove(one);
            case "bar": return sums.bar(one, two, three != 0);
            case "setRoom": return sums.setRoom(one);
            case "set": return sums.set(one, two);
            case "begin": return sums.begin();
            case "step": return sums.step(one);
            case "dive": return sums.dive();
            case "giveUp": return sums.giveUp();
            case "type": return sums.type((char) one);
            case "clearText": return sums.clearText();
            case "undo": return sums.undo();
            case "keep": return sums.keep();
            case "restore": return sums.restore();
            default: return askedOf(sums);
        }
    }

    private int askedOf(BranchedSums sums) {
        switch (name) {
            case "thing": return sums.thing(one, two);
            case "node": return sums.node(one, two);
            case "next": return sums.next();
            case "branchOf": return sums.branchOf(one, two);
            case "boundOf": return sums.boundOf(one, two);
            case "heelOf": return sums.heelOf(one, two);
            case "bestSum": return sums.bestSum();
            case "count": return sums.count(one);
            default: throw new IllegalArgumentException("no call is named " + name);
        }
    }
}
