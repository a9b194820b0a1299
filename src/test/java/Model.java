import java.util.ArrayList;
import java.util.HashMap;
import java.util.HashSet;
import java.util.List;
import java.util.Map;
import java.util.Set;

/** The document told a second time, over trees and with recursion, to compare the class with. */
final class Model {
    record Term(int symbol, List<Term> parts) {
        int size() {
            int n = 1;
            for (Term p : parts) {
                n += p.size();
            }
            return n;
        }

        void addPlaces(List<Term> places) {
            places.add(this);
            for (Term p : parts) {
                p.addPlaces(places);
            }
        }

        List<Term> places() {
            List<Term> places = new ArrayList<>();
            addPlaces(places);
            return places;
        }

        List<Integer> variables() {
            List<Integer> found = new ArrayList<>();
            for (Term p : places()) {
                if (p.symbol >= 7) {
                    found.add(p.symbol);
                }
            }
            return found;
        }

        boolean fitsAs(Term ground, Map<Integer, Term> given) {
            if (symbol >= 7) {
                given.put(symbol, ground);
                return true;
            }
            if (symbol != ground.symbol) {
                return false;
            }
            for (int k = 0; k < parts.size(); k++) {
                if (!parts.get(k).fitsAs(ground.parts.get(k), given)) {
                    return false;
                }
            }
            return true;
        }

        Term with(Map<Integer, Term> given) {
            if (symbol >= 7) {
                return given.get(symbol);
            }
            List<Term> filled = new ArrayList<>();
            for (Term p : parts) {
                filled.add(p.with(given));
            }
            return new Term(symbol, filled);
        }

        /** This term with another part at the place. */
        Term replaced(int place, Term by) {
            if (place == 0) {
                return by;
            }
            List<Term> changed = new ArrayList<>();
            int at = place - 1;
            for (Term p : parts) {
                changed.add(at >= 0 && at < p.size() ? p.replaced(at, by) : p);
                at -= p.size();
            }
            return new Term(symbol, changed);
        }
    }

    record Rule(Term left, Term right) {
    }

    private final List<Term> stack = new ArrayList<>();
    private final List<Rule> rules = new ArrayList<>();
    private Term subject = new Term(0, List.of());

    private Term pop() {
        return stack.remove(stack.size() - 1);
    }

    int build(int s) {
        if (s < 0 || s > 9) {
            return -1;
        }
        int total = 0;
        for (Term t : stack) {
            total += t.size();
        }
        int parts = s == 5 || s == 6 ? 2 : s == 3 || s == 4 ? 1 : 0;
        if (total == 31 || parts == 0 && stack.size() == 6) {
            return -2;
        }
        if (stack.size() < parts) {
            return -3;
        }
        List<Term> taken = new ArrayList<>();
        for (int k = 0; k < parts; k++) {
            taken.add(0, pop());
        }
        stack.add(new Term(s, taken));
        return stack.size();
    }

    int depth() {
        return stack.size();
    }

    void discard() {
        stack.clear();
    }

    int rule() {
        if (rules.size() == 6) {
            return -2;
        }
        if (stack.size() < 2) {
            return -3;
        }
        Term left = stack.get(stack.size() - 2);
        Term right = stack.get(stack.size() - 1);
        Set<Integer> known = new HashSet<>(left.variables());
        boolean twice = known.size() < left.variables().size();
        if (left.symbol() >= 7 || left.size() > 7 || twice || !known.containsAll(right.variables())) {
            return -3;
        }
        pop();
        pop();
        rules.add(new Rule(left, right));
        return rules.size() - 1;
    }

    int unrule() {
        if (rules.isEmpty()) {
            return -4;
        }
        rules.remove(rules.size() - 1);
        return rules.size();
    }

    int rules() {
        return rules.size();
    }

    int subject() {
        if (stack.isEmpty() || !stack.get(stack.size() - 1).variables().isEmpty()) {
            return -3;
        }
        subject = pop();
        return subject.size();
    }

    int size() {
        return subject.size();
    }

    private Term partAt(int i) {
        List<Term> places = subject.places();
        return i >= 0 && i < places.size() ? places.get(i) : null;
    }

    int symbol(int i) {
        Term part = partAt(i);
        return part == null ? -4 : part.symbol();
    }

    int fits(int i) {
        Term part = partAt(i);
        for (int r = 0; part != null && r < rules.size(); r++) {
            if (rules.get(r).left().fitsAs(part, new HashMap<>())) {
                return r;
            }
        }
        return -4;
    }

    int redexes() {
        int count = 0;
        for (int i = 0; i < size(); i++) {
            count += fits(i) >= 0 ? 1 : 0;
        }
        return count;
    }

    int step() {
        for (int i = 0; i < size(); i++) {
            int r = fits(i);
            if (r >= 0) {
                Map<Integer, Term> given = new HashMap<>();
                rules.get(r).left().fitsAs(partAt(i), given);
                Term next = subject.replaced(i, rules.get(r).right().with(given));
                if (next.size() > 31) {
                    return -2;
                }
                subject = next;
                return i;
            }
        }
        return -4;
    }

    int run(int n) {
        int done = 0;
        while (done < Math.min(n, 40) && step() >= 0) {
            done++;
        }
        return done;
    }

    int sizeAt(int i) {
        Term part = partAt(i);
        return part == null ? -4 : part.size();
    }

    boolean same(int i, int j) {
        Term first = partAt(i);
        return first != null && first.equals(partAt(j));
    }

    int digest() {
        int sum = 0;
        for (int i = 0; i < size(); i++) {
            sum += (i + 1) * (symbol(i) + 1);
        }
        return sum;
    }
}
