/**
 * All that can be seen of an object, as text: two objects with the same view are in the same state.
 * Some 400 calls; the object is empty afterwards, since what a term or a cost is can be seen only by
 * setting it.
 */
final class View {
    private static final int SCORES = 5, PLACES = 6, COLUMNS = 8, ROWS = 8, AIMS = 4;

    private final Object x;
    private final StringBuilder text = new StringBuilder();

    private View(Object x) {
        this.x = x;
    }

    static String of(Object x) {
        View view = new View(x);
        view.see("left");
        view.see("plans");
        view.seeFront();
        view.seePicked();
        view.seeBehind();
        view.seeEach("climbed", COLUMNS);
        view.see("run", 2000);
        view.see("plans");
        view.seeFront();
        view.seeSetUp();
        return view.text.toString();
    }

    private long see(String name, int... numbers) {
        long answer = Script.answer(x, name, numbers);
        text.append(name);
        for (int number : numbers) {
            text.append(' ').append(number);
        }
        text.append(": ").append(answer).append('\n');
        return answer;
    }

    private void seeEach(String name, int count) {
        for (int i = 0; i < count; i++) {
            see(name, i);
        }
    }

    private void seeFront() {
        for (int k = 0; k < SCORES && see("ties", k) != AimFronts.OUTSIDE; k++) {
            for (int aim = 0; aim < AIMS && see("score", k, aim) != AimFronts.OUTSIDE; aim++) {
            }
            for (int column = 0; column < COLUMNS && see("plan", k, column) != AimFronts.OUTSIDE; column++) {
            }
        }
        seeEach("ideal", AIMS);
        seeEach("nadir", AIMS);
    }

    private void seePicked() {
        for (int i = 0; i < PLACES && see("picked", i) != AimFronts.OUTSIDE; i++) {
        }
    }

    private void seeBehind() {
        see("boxes");
        see("volume");
        for (int i = 0; i < PLACES; i++) {
            for (int aim = 0; aim < AIMS && see("box", i, aim) >= -2000; aim++) {
            }
        }
    }

    private void seeSetUp() {
        for (int row = 0; row < ROWS; row++) {
            for (int column = 0; column < COLUMNS && see("term", row, column, 0) != AimFronts.OUTSIDE; column++) {
            }
        }
        for (int aim = 0; aim < AIMS; aim++) {
            for (int column = 0; column < COLUMNS && see("cost", aim, column, 0) != AimFronts.OUTSIDE; column++) {
            }
        }
        see("row", 0);
        see("aim");
        see("clear");
    }
}
