/** Promises 1 to 5: a new object, the road, sorts, cars, walks. */
public final class RoadTest {
    private RoadTest() {
    }

    public static void main(String[] args) {
        newObject();
        road();
        sort();
        car();
        walks();
        Due.end();
    }

    private static void newObject() {
        BetweenStops x = new BetweenStops();
        int[] want = {0, 0, 0, 1, 0, 0, 300, 3};
        for (int what = 0; what < want.length; what++) {
            Due.due("new: count " + what, x.count(what), want[what]);
        }
        Due.due("new: sum 1", x.sum(1), -1);
        Due.due("new: back", x.back(), BetweenStops.STATE);
        for (int i = 0; i < 16; i++) {
            Due.due("new: taken " + i, x.taken(i, 0), -11);
        }
        for (int s = 0; s < 4; s++) {
            Due.due("new: cell of sheet " + s, x.cell(s, 0, 0), -11);
        }
    }

    private static void road() {
        BetweenStops x = new BetweenStops();
        for (int c = 0; c <= 40; c++) {
            Due.due("road at first", x.road(c, c % 10), 0);
        }
        for (int c = 0; c <= 40; c++) {
            Due.due("road then", x.road(c, 9 - c % 10), c % 10);
        }
        Due.due("road -1", x.road(-1, 0), BetweenStops.NONE);
        Due.due("road 41", x.road(41, 0), BetweenStops.NONE);
        Due.due("road 41 10", x.road(41, 10), BetweenStops.NONE);
        Due.due("road least", x.road(Integer.MIN_VALUE, 0), BetweenStops.NONE);
        Due.due("road 0 -1", x.road(0, -1), BetweenStops.BAD);
        Due.due("road 0 10", x.road(0, 10), BetweenStops.BAD);
        Due.due("road as it was", x.road(0, 0), 9);
    }

    private static void sort() {
        BetweenStops x = new BetweenStops();
        int[][] first = {{10, 5, 2, 2, 1, 300}, {15, 20, 3, 2, 1, 200}, {6, 2, 1, 3, 1, 600}};
        int[] least = {1, 0, 0, 0, 0, 0};
        int[] most = {60, 60, 9, 9, 9, 9999};
        for (int k = 0; k < 3; k++) {
            for (int what = 0; what < 6; what++) {
                String name = "sort " + k + " " + what;
                Due.due(name + " too little", x.sort(k, what, least[what] - 1), BetweenStops.BAD);
                Due.due(name + " too much", x.sort(k, what, most[what] + 1), BetweenStops.BAD);
                Due.due(name + " at first", x.sort(k, what, least[what]), first[k][what]);
                Due.due(name + " least", x.sort(k, what, most[what]), least[what]);
                Due.due(name + " most", x.sort(k, what, first[k][what]), most[what]);
            }
            Due.due("sort what 6", x.sort(k, 6, 1), BetweenStops.BAD);
            Due.due("sort what -1", x.sort(k, -1, 1), BetweenStops.BAD);
        }
        Due.due("sort 3", x.sort(3, 0, 1), BetweenStops.NONE);
        Due.due("sort -1", x.sort(-1, 0, 1), BetweenStops.NONE);
        Due.due("sort 3, nothing as told", x.sort(3, 9, -1), BetweenStops.NONE);
    }

    private static void car() {
        BetweenStops x = new BetweenStops();
        Due.due("every", x.car(0, 3600), 300);
        Due.due("every most", x.car(0, 1), 3600);
        Due.due("every 0", x.car(0, 0), BetweenStops.BAD);
        Due.due("every 3601", x.car(0, 3601), BetweenStops.BAD);
        Due.due("every as it was", x.count(6), 1);
        Due.due("pace", x.car(1, 60), 3);
        Due.due("pace most", x.car(1, 1), 60);
        Due.due("pace 0", x.car(1, 0), BetweenStops.BAD);
        Due.due("pace 61", x.car(1, 61), BetweenStops.BAD);
        Due.due("pace as it was", x.count(7), 1);
        Due.due("car 2", x.car(2, 5), BetweenStops.BAD);
        Due.due("car -1", x.car(-1, 5), BetweenStops.BAD);
    }

    private static void walks() {
        BetweenStops x = new BetweenStops();
        Due.due("flat", x.walks(3, 13, 1), 150);
        Due.due("nowhere", x.walks(7, 7, 0), 0);
        x.road(10, 5);
        x.road(11, 9);
        // Up 5 and 4 from the left, up 9 from the right.
        Due.due("from the left", x.walks(9, 12, 0), 30 + 9 * 5);
        Due.due("from the right", x.walks(12, 9, 0), 30 + 9 * 5);
        Due.due("to the top from the left", x.walks(10, 11, 1), 15 + 4 * 20);
        Due.due("from the top to the left", x.walks(11, 9, 1), 30);
        Due.due("from the right to the lower one", x.walks(12, 10, 2), 12 + 9 * 2);
        x.road(3, 7);
        x.road(5, 2);
        Due.due("hills behind it don't count", x.walks(12, 9, 0), 30 + 9 * 5);
        Due.due("hills ahead of it don't count", x.walks(9, 12, 0), 30 + 9 * 5);
        Due.due("hills on both sides of it don't count", x.walks(5, 4, 0) + x.walks(4, 5, 0), 10 + 10 + 2 * 5);
        x.road(3, 0);
        x.road(5, 0);
        x.road(1, 3);
        Due.due("the first step", x.walks(0, 2, 0), 20 + 3 * 5);
        Due.due("and from behind it", x.walks(2, 0, 0), 20 + 3 * 5);
        x.road(0, 3);
        Due.due("the first cell as high", x.walks(0, 1, 0), 10);
        x.road(0, 0);
        x.road(1, 0);
        x.road(40, 2);
        Due.due("the last step", x.walks(39, 40, 1), 15 + 2 * 20);
        x.road(40, 0);
        x.road(11, 2);
        Due.due("changed", x.walks(9, 12, 0), 30 + 5 * 5);
        Due.due("changed, back", x.walks(12, 9, 0), 30 + 5 * 5);
        x.sort(0, 1, 0);
        Due.due("no UP", x.walks(0, 40, 0), 400);
        Due.due("walks 41", x.walks(41, 0, 0), -5);
        Due.due("walks to 41", x.walks(0, 41, 0), -5);
        Due.due("walks -1", x.walks(-1, 0, 3), -5);
        Due.due("walks of sort 3", x.walks(0, 0, 3), -7);
        Due.due("walks of sort -1", x.walks(40, 40, -1), -7);
    }
}
