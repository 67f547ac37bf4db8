import java.util.ArrayList;
import java.util.List;

/** Nights as the document tells them, in the plainest form, as a yardstick for NightTest. */
final class PlainHouse {
    interface Rule {
        int tell(Man man, int weight, int stride, int night);
    }

    static final class Man {
        int flight, number, height, wear, loose, rank, post, carpet, heard, failed, heardAtPromotion;
    }

    record Order(int night, int flight, int step, int what) { }

    record Visit(int night, int flight, boolean up, int weight, int stride) { }

    record Line(int night, int what, int which, int much) { }

    final List<List<Man>> flights = new ArrayList<>();
    final List<Order> orders = new ArrayList<>();
    final List<Visit> visits = new ArrayList<>();
    final List<Line> book = new ArrayList<>();
    Rule creaks = (m, weight, stride, night) -> weight + 5 * m.wear + 50 * m.loose - 300 * m.carpet;
    Rule wears = (m, weight, stride, night) -> 1;
    Rule rises = (m, weight, stride, night) -> 1;
    int night, salutes, creaked, state;
    boolean thought;

    static int held(int v, int most) {
        return v < 0 ? 0 : v > most ? most : v;
    }

    void build(int steps, int height) {
        List<Man> men = new ArrayList<>();
        for (int i = 0; i < steps; i++) {
            Man m = new Man();
            m.flight = flights.size();
            m.number = i;
            m.height = height;
            men.add(m);
        }
        flights.add(men);
    }

    Man man(int flight, int step) {
        return flights.get(flight).get(step);
    }

    void order(int what, int flight, int step) {
        Man m = man(flight, step);
        switch (what) {
            case 0, 1, 2 -> m.post = what;
            case 3 -> m.carpet = 1;
            case 4 -> m.carpet = 0;
            case 5 -> m.loose = 0;
            default -> m.loose = Math.min(9, m.loose + 1);
        }
    }

    private void write(Man m, int what, int much) {
        if (book.size() < 150) {
            book.add(new Line(night, what, 100 * m.flight + m.number, much));
        }
    }

    int visit(int flight, boolean up, int weight, int stride) {
        List<Man> men = flights.get(flight);
        int count = 0;
        if (up) {
            for (int i = stride - 1; i < men.size(); i += stride) {
                count += tread(men.get(i), weight, stride);
            }
        } else {
            for (int i = men.size() - 1; i >= 0; i -= stride) {
                count += tread(men.get(i), weight, stride);
            }
        }
        return count;
    }

    private int tread(Man m, int weight, int stride) {
        if (m.post == 2) {
            salutes++;
            write(m, 2, 0);
            return 0;
        }
        int c = held(creaks.tell(m, weight, stride, night), 1000);
        boolean creak;
        if (thought) {
            creak = c >= 500;
        } else {
            creak = false;
            if (c > 0) {
                state = state * 1664525 + 1013904223;
                creak = (int) ((state & 0xffffffffL) / 256 % 1000) < c;
            }
        }
        if (creak) {
            creaked++;
            write(m, 0, weight);
            if (m.post == 0) {
                m.heard++;
            }
        } else if (m.post == 0) {
            m.failed++;
            write(m, 1, weight);
        }
        m.wear = Math.min(99, m.wear + held(wears.tell(m, weight, stride, night), 99));
        return creak ? 1 : 0;
    }

    int passNight() {
        for (Order o : orders) {
            if (o.night == night) {
                order(o.what, o.flight, o.step);
            }
        }
        int count = 0;
        for (Visit v : visits) {
            if (v.night == night) {
                count += visit(v.flight, v.up, v.weight, v.stride);
            }
        }
        for (List<Man> men : flights) {
            for (Man m : men) {
                if (m.heard >= m.heardAtPromotion + 3) {
                    m.rank = Math.min(9, m.rank + held(rises.tell(m, 0, 0, night), 9));
                    m.heardAtPromotion = m.heard;
                    write(m, 3, m.rank);
                }
                if (m.failed > 5 && m.failed > m.heard && m.post != 2) {
                    m.post = 2;
                    write(m, 4, m.failed);
                }
            }
        }
        night++;
        return count;
    }
}
