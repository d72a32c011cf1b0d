/** The sentences of promises 34 and 35: images. */
final class ImagesTold extends Told {
    private static final int[] NO_IMAGES = {-1, 3, 4, LOW, HIGH};

    /** All of three places with acts 0 and 7, and two numbers in the row. */
    private static MarkTables withAll() {
        MarkTables x = Dues.threePlaces();
        x.coset(0, 1);
        x.heaps(7);
        Dues.fillRow(x, 5, -1);
        return x;
    }

    /** All is another: group, acts and row. */
    private static void changeAll(MarkTables x) {
        Dues.lay(x, 0, 1, 2, 3, 0);
        x.group(4);
        x.coset(1, 10);
        x.row(3);
    }

    // ---- promise 34: image

    @Holds(in = "Promise 34", words = "IMAGE k (0 .. 2)")
    void threeImages() {
        MarkTables x = withAll();
        String[] views = new String[3];
        for (int k = 0; k <= 2; k++) {
            x.coset(k, 2);
            x.row(k);
            views[k] = Dues.view(x);
            taken("image(" + k + ")", x, x.image(k), 0);
        }
        for (int k : new int[] {1, 0, 2, 2, 0, 1}) {
            taken("back(" + k + ")", x, x.back(k), 0);
            stays("back(" + k + ")", x, views[k]);
        }
    }

    @Holds(in = "Promise 34", words = ": the GROUP, ACTS and ROW are kept: 0.")
    void allIsKept() {
        MarkTables x = withAll();
        String before = Dues.view(x);
        taken("image(0)", x, x.image(0), 0);
        stays("image(0)", x, before);
        x.coset(0, 2);
        x.coset(1, 0);
        x.row(9);
        x.back(0);
        stays("acts and row that changed", x, before);
        changeAll(x);
        x.back(0);
        stays("a group that changed", x, before);
        taken("the row's numbers are kept", x, x.row(2), 3);
        taken("and go on", x, x.row(0), 4);
        taken("they are one six and a two less a three", x, x.check(-1), 1);
        due("the three", x.misfit(), 1);
        MarkTables one = new MarkTables();
        taken("an image of a new object", one, one.image(2), 0);
        changeAll(one);
        one.back(2);
        due("places", one.count(0), 1);
        due("acts", one.count(4), 0);
        due("row", one.count(5), 0);
    }

    @Holds(in = "Promise 34", words = "the GROUP, ACTS and ROW are kept")
    void keptAnew() {
        MarkTables x = withAll();
        x.image(1);
        changeAll(x);
        String newer = Dues.view(x);
        taken("image(1) anew", x, x.image(1), 0);
        x.sheet(0, 0, 0);
        x.sheet(1, 0, 0);
        x.group(8);
        x.back(1);
        stays("back(1)", x, newer);
        x.coset(5, 0);
        x.back(1);
        stays("what is done behind back() is not kept", x, newer);
    }

    @Holds(in = "Promise 34", words = "kept")
    void keptThroughManyGroups() {
        MarkTables x = new MarkTables();
        String[] views = new String[3];
        int[][] orders = {{1, 0}, {1, 2, 0}, {1, 2, 3, 0}};
        for (int k = 0; k < 3; k++) {
            Dues.lay(x, 0, orders[k]);
            x.group(4);
            x.heaps(k);
            views[k] = Dues.view(x);
            x.image(k);
        }
        for (int n = 5; n <= 8; n++) {
            Dues.lay(x, 0, 1, 2, 3, 4, 0);
            x.group(n);
            Dues.lay(x, 0, 1, 2, 3, 4, 5, 6, 7, 0);
            x.group(8);
            for (int k = 0; k < 3; k++) {
                x.back(k);
                stays("back(" + k + ")", x, views[k]);
                Groups.lay(x, Groups.MORE_HEAPS);
                refused("a group that is refused", x, x.group(8), -5);
                stays("it", x, views[k]);
                Groups.lay(x, new int[][] {{1, 2, 3, 4, 5, 0}});
                taken("another group", x, x.group(6), 6);
            }
        }
    }

    @Holds(in = "Promise 34", words = "are kept")
    void oneImageThroughManyGroups() {
        MarkTables x = withAll();
        x.image(1);
        String before = Groups.view(x);
        for (int[] order : new int[][] {{1, 2, 3, 0}, {1, 2, 3, 4, 0}, {1, 0}, {1, 2, 3, 4, 5, 0}}) {
            Groups.lay(x, new int[][] {order});
            taken("another group", x, x.group(8), order.length);
        }
        x.back(1);
        isTrue("the group is as it was", before.equals(Groups.view(x)));
    }

    @Holds(in = "Promise 34", words = "-1.")
    void noImage() {
        MarkTables x = withAll();
        String before = Dues.view(x);
        for (int k : NO_IMAGES) {
            refused("image(" + k + ")", x, x.image(k), -1);
        }
        stays("these", x, before);
        for (int k = 0; k < 3; k++) {
            refused("nothing is kept", x, x.back(k), -2);
        }
    }

    // ---- promise 35: back

    @Holds(in = "Promise 35", words = "They are as IMAGE k has them")
    void asTheImageHasThem() {
        MarkTables x = withAll();
        String before = Dues.view(x);
        x.image(0);
        changeAll(x);
        for (int i = 0; i < 3; i++) {
            due("back(0)", x.back(0), 0);
            stays("back(0)", x, before);
            x.many(0, 0, i);
            x.row(i);
        }
        x.back(0);
        due("acts that the image has", x.count(4), 2);
        due("act 1, which it has not", x.parts(1, 0), -1);
        due("row", x.count(5), 2);
        due("heaps", x.count(2), 6);
        x.image(1);
        x.back(1);
        stays("an image of what an image had", x, before);
    }

    @Holds(in = "Promise 35", words = "(SHEETS stay): 0.")
    void sheetsStay() {
        MarkTables x = withAll();
        x.image(0);
        Dues.lay(x, 0, 1, 2, 3, 0);
        x.sheet(1, 0, -1);
        taken("back(0)", x, x.back(0), 0);
        due("the group of the image", x.count(1), 6);
        refused("a missing sheet stays missing", x, x.write(1, 0, 0), -2);
        taken("the newer sheet stays", x, x.group(4), 4);
        x.write(0, 0, 7);
        x.back(0);
        refused("a newer number stays", x, x.group(4), -6);
    }

    @Holds(in = "Promise 35", words = "-1;")
    void backToNoImage() {
        MarkTables x = withAll();
        for (int k = 0; k < 3; k++) {
            x.image(k);
        }
        x.row(0);
        String before = Dues.view(x);
        for (int k : NO_IMAGES) {
            refused("back(" + k + ")", x, x.back(k), -1);
        }
        stays("these", x, before);
    }

    @Holds(in = "Promise 35", words = "-2 it was not kept.")
    void backToWhatWasNotKept() {
        MarkTables x = withAll();
        String before = Dues.view(x);
        for (int k = 0; k < 3; k++) {
            refused("back(" + k + ")", x, x.back(k), -2);
        }
        x.image(1);
        refused("back(0)", x, x.back(0), -2);
        refused("back(2)", x, x.back(2), -2);
        stays("these", x, before);
        taken("back(1)", x, x.back(1), 0);
    }
}
