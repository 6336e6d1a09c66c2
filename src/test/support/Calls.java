/** The calls by their numbers, 0 to 27 as they stand in the document. */
final class Calls {
    private Calls() {
    }

    static long ask(NamesByLot x, int kind, int[] a) {
        switch (kind) {
            case 0: return x.say(a[0]);
            case 1: return x.wipe();
            case 2: return x.fault(a[0]);
            case 3: return x.names(a[0]);
            case 4: return x.set(a[0], a[1], a[2]);
            case 5: return x.sheet(a[0], a[1]);
            case 6: return x.count(a[0]);
            case 7: return x.need(a[0]);
            case 8: return x.rule();
            case 9: return x.comes(a[0], a[1], a[2], a[3], a[4]);
            case 10: return x.yes(a[0], a[1]);
            case 11: return x.bySheets(a[0], a[1]);
            case 12: return x.wrong(a[0], a[1]);
            case 13: return x.enough(a[0]);
            case 14: return x.worth(a[0], a[1], a[2], a[3]);
            case 15: return x.gatherer(a[0], a[1]);
            case 16: return x.seems(a[0], a[1]);
            case 17: return x.suspect();
            case 18: return x.shared(a[0], a[1]);
            case 19: return x.fine(a[0], a[1], a[2]);
            case 20: return x.word(a[0], a[1], a[2]);
            case 21: return x.strike(a[0]);
            case 22: return x.worst();
            case 23: return x.against(a[0], a[1]);
            case 24: return x.heap(a[0], a[1], a[2]);
            case 25: return x.image(a[0]);
            case 26: return x.restore(a[0]);
            default: return x.told(a[0]);
        }
    }
}
