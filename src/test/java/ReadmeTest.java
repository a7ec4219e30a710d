/** What README.md shows of the class's use, call by call, with the answers that the document asks for. */
public final class ReadmeTest {
    public static void main(String[] args) {
        Drive net = new Drive("readme calls");
        net.due(0, "join", 10, 10, 0, 0).due(1024, "held", 0, 0, 1);
        net.due(1, "join", 20, 30, 20, 5).due(3, "zone", 1, 0, 0).due(3, "cell", 0, 20, 5, 0);
        net.due(1, "put", 8, 7).due(7, "key", 8, 0);
        net.due(1, "way", 0, 0, 21, 15, TorusZones.NONE);
        net.due(1, "go", 1, 1).due(2, "node", 1, 0).due(0, "key", 8, 1);
        net.due(1, "go", 1, 2).due(1, "zone", 0, 0, 0);

        Drive text = new Drive("readme text");
        text.text(4, "net 2; join 0 0 at 5 5; join 1 1 near; put 3 4");
        text.due(2, "count", 0).due(3, "count", 1).due(4, "key", 3, 0).due(3, "key", 3, 1);
        text.wrongText(6, "net 2;x").due(0, "why").wrongText(6, "mend ;leave 7").due(4, "why");
        Drive.finish();
    }
}
