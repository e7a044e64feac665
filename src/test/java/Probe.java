import java.util.ArrayList;
import java.util.List;

/**
 * What can be seen of an object by further calls, as a row of answers. The object is used up by it; with the calls that
 * made a town of Towns these are less than 512.
 */
final class Probe {
    private final OldestCoins x;
    private final List<Integer> answers = new ArrayList<>();

    private Probe(OldestCoins of) {
        x = of;
    }

    static List<Integer> of(OldestCoins x) {
        Probe p = new Probe(x);
        int[] all = {0, 1, 2, 3, 4};
        p.coins(all);
        p.laws();
        p.errands();
        p.days();
        p.sheets();
        p.tape();
        p.see(x.restore());
        p.coins(new int[] {4});
        p.errands();
        p.days();
        p.see(x.run(1));
        p.holders();
        return p.answers;
    }

    private void see(int answer) {
        answers.add(answer);
    }

    private void coins(int[] whats) {
        for (int what = 0; what < 4; what++) {
            see(x.count(what));
        }
        int n = Math.min(x.count(0), 40);
        for (int coin = 0; coin < n; coin++) {
            for (int what : whats) {
                see(x.told(coin, what));
            }
        }
    }

    private void holders() {
        for (int holder = 0; holder < 8; holder++) {
            see(x.of(holder, 1));
        }
    }

    private void laws() {
        for (int holder = 0; holder < 8; holder++) {
            see(x.of(holder, 2));
            see(x.of(holder, 3));
        }
        int law = x.rule(0);
        see(law);
        see(x.rule(law));
    }

    private void errands() {
        for (int i = -1; i < 6; i++) {
            see(x.order(0, i));
        }
        see(x.send(0, 0, 4, 0));
        see(x.send(0, 0, 6, 0));
    }

    private void days() {
        for (int coin = 0; coin < 8; coin++) {
            see(x.where(coin, 1));
        }
        see(x.where(0, 50));
        see(x.gain(0, 0, 99));
        see(x.shows(0, 99));
    }

    private void sheets() {
        for (int sheet = 0; sheet < 4; sheet++) {
            for (int lane = 0; lane < 3; lane++) {
                for (int i = 0; i < 5; i++) {
                    see(x.seen(sheet, lane, i, 1, 5 + i, 1, 0, -1));
                }
            }
            see(x.drop(sheet));
        }
    }

    /** How long it is, then what it says. */
    private void tape() {
        see(x.type(' ', 1));
        see(x.purse(2));
        int last = x.count(0) - 1;
        see(last);
        for (int what = 0; what < 5; what++) {
            see(x.told(last, what));
        }
    }
}
