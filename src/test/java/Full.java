/** Runs of calls that lead to states without room, and to one with some of everything. */
final class Full {
    static final String TEN_NUMBERS = "{a:0,b:1,c:2,d:3,e:4,f:5,g:6,h:7,i:8,j:9}";

    private Full() {
    }

    /** 30 records "{}", but for the last one, "{a:7}"; the shape 0 is common. */
    static Script records() {
        Script script = new Script();
        for (int record = 0; record < 29; record++) {
            script.read("{}");
        }
        return script.read("{a:7}");
    }

    /** 60 paths, by 6 records: the branches a to f are the paths 0, 10 .. 50, the leaf a in a is 1. */
    static Script paths() {
        Script script = new Script();
        for (char letter = 'a'; letter <= 'f'; letter++) {
            script.read("{" + letter + ":{a:1,b:2,c:3,d:4,e:5,f:6,g:7,h:8,i:9}}");
        }
        return script;
    }

    /**
     * 40 shapes, by 5 records that had ten leaves and lost up to 9 of them. Record 4 is
     * "{a:0,b:1,c:2,d:3,h:7,i:8,j:9}" now; without d (path 3) it has the shape 31, which record 3 had once,
     * without j (path 9) a 41st one, and path 4 is none of its fields any more.
     */
    static Script shapes() {
        Script script = new Script();
        int known = 1;
        for (int i = 0; i < 5; i++) {
            int record = i;
            script.read(TEN_NUMBERS);
            for (int dropped = 0; dropped < 9 && known < 40; dropped++) {
                int path = (record + dropped) % 10;
                script.then(x -> x.drop(record, path));
                known++;
            }
        }
        return script;
    }

    /**
     * Records 0 and 2 "{a:1,b:{c:2,d:{}}}" of the common shape 0, record 1 thrown away, the rare record 3
     * "{c:{a:5}}" of the shape 1, five states in the history, and "{z" as the text.
     */
    static Script some() {
        return new Script().read("{a:1,b:{c:2,d:{}}}", "{c:{a:5}}", "{a:3,b:{c:4,d:{}}}", "{c:{a:6}}")
            .then(x -> x.discard(1)).then(x -> x.change(3, 5, 5)).append("{z");
    }
}
