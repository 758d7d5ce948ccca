/** Promise 1: four places without nodes, an empty tape, and nothing else. */
public final class NewObjectTest {
    public static void main(String[] args) {
        DrawingHouse house = new DrawingHouse();
        for (int g = 0; g < 4; g++) {
            Check.due("nodes", house.count(g, 0), 0);
            Check.due("edges", house.count(g, 1), 0);
            Check.due("groups", house.count(g, 2), 1);
            for (int what = 3; what <= 7; what++) {
                Check.due("count " + what, house.count(g, what), 0);
            }
            Check.due("group 0 lies in none", house.group(g, 0, 0), -1);
            Check.due("name of group 0", house.group(g, 0, 1), 0);
            Check.due("size of group 0", house.group(g, 0, 2), 0);
            Check.due("planar", house.planar(g, 0), 1);
            Check.due("drawing", house.draw(g, 0, 0), -1);
            Check.due("no way drawn", house.told(g, 0, 0), -1);
            Check.due("nothing to take back", house.back(g, 0), false);
        }
        Check.due("tape", house.read(0, 1), -2);
        Check.due("octet", house.octet(0), -1);
        Check.due("dot", house.dot(0, 0), -1);
        Check.due("fault", house.fault(0), -1);
        Check.due("fault place", house.fault(1), -1);
        Check.due("map", house.map(0), -1);
        Check.due("steps", house.map(-1), -1);
        Check.due("NONE", DrawingHouse.NONE, -1);
        Check.end();
    }
}
