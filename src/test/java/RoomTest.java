/** Promises 1 to 8: the tape, the manuscript, and what is changed in it. */
public final class RoomTest {
    public static void main(String[] args) {
        Desk desk = new Desk();
        Desk.same("new: count(0)", 0, desk.room.count(0));
        Desk.same("write", 2, desk.write("a\nb"));
        Desk.close();
    }
}
