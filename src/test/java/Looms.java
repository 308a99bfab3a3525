/** The texts and the looms that the tests of the document's edges begin with. */
final class Looms {
    static final String B = "board slack 0 joint 0;";
    static final String R = B + "node r;";
    static final String P = R + "plug p on r holes 12 gauge 1 to 9;";
    static final String O = P + "option x;";
    static final String N = "net n power gauge 1 of p 0,p 1";

    /*
     * r at 0, 0; a at 10, 0; b at 10, 4; c at 10, -6; d at -5, 0. Far: r-a 10, r-b 14, r-c 16, r-d 5, a-b 4, a-c 6,
     * a-d 15, b-c 10, b-d 19, c-d 21. VARIANTS: 1 is with x, 2 with y, 3 with both.
     */
    static final String TREE = "board slack 2 joint 3;node r;node a off r right long 10;node b off a up long 4;"
        + "node c off a down long 6;node d off r left long 5;option x;option y;";
    static final String PLUGS = "plug p on b holes 4 gauge 1 to 3;plug q on c holes 3 gauge 2 to 9;"
        + "plug s on d holes 2 gauge 1 to 9 with x;plug t on r holes 3 gauge 1 to 9 without y;";
    static final String NETS = "net n power gauge 2 of p 0,q 0,s 0;net m signal gauge 5 with x of p 1,q 1;"
        + "net k ground gauge 2 of p 2,q 2,s 1,t 0;";
    static final String LOOM = TREE + PLUGS + NETS + "build 10;build 5 x;build 2 x y";

    static final String OTHER = "board slack 9 joint 8;node z;plug y on z holes 2 gauge 1 to 1;"
        + "net w ground gauge 1 of y 0,y 1";

    private Looms() {
    }

    static SplicedLoom told(String text) {
        return Bench.loomOf(text);
    }

    static SplicedLoom loom() {
        return told(LOOM);
    }

    /** No HARNESS yet, but OTHER on THE TAPE. */
    static SplicedLoom bare() {
        SplicedLoom x = new SplicedLoom();
        Bench.feedAll(x, OTHER);
        return x;
    }

    /** LOOM, told ahead of a FAULT 3, and three ACTS; nothing on THE TAPE. */
    static SplicedLoom acted() {
        SplicedLoom x = loom();
        Bench.tell(x, R + "option r");
        x.stretch(2, 8);
        x.splices(0, 3);
        x.splices(1, 4);
        return x;
    }

    /** The same with OTHER on THE TAPE. */
    static SplicedLoom used() {
        SplicedLoom x = acted();
        Bench.feedAll(x, OTHER);
        return x;
    }

    /** Another harness with OTHER on THE TAPE. */
    static SplicedLoom used(String text) {
        SplicedLoom x = told(text);
        Bench.feedAll(x, OTHER);
        return x;
    }
}
