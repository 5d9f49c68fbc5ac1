/** The calls that README.md shows, with the answers that it tells. */
public final class ReadmeTest {
  public static void main(String[] args) {
    OilMemories tower = new OilMemories();
    Due.due("a farm", tower.memory(60, 8, 9901), 0);
    Due.due("tonight(0)", tower.tonight(0), 1);
    Due.due("lasts()", tower.lasts(), 60);
    Due.due("feed(w*3)", tower.feed(0x332a77L, 3), 3);
    Due.due("text(1)", tower.text(1), 1);
    Due.due("nights(3)", tower.nights(3), 3);
    Due.due("nights(61)", tower.nights(61), Due.BEYOND);
    Due.due("told(1)", tower.told(1), 1);
    Due.end();
  }
}
