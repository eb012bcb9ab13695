"""Writes runs of calls with the answers due, worked out by sympy and by nothing of the program.

python3 tools/oracle.py SEED RUNS CALLS > src/test/data/runs.txt
"""
import functools
import math
import random
import sys

from sympy import Poly, Rational, ZZ, factor_list, gcd, primerange, resultant, sqrt, symbols
from sympy.combinatorics import Permutation, PermutationGroup
from sympy.polys.numberfields.galoisgroups import galois_group

x, y = symbols('x y')
UNSAID = -9223372036854775808
PLACES = 7
PRIMES = list(primerange(2, 998))


def degree_of(numbers):
    for place in range(PLACES - 1, -1, -1):
        if numbers[place]:
            return place
    return -1


def poly_of(numbers):
    return Poly(list(reversed(numbers)), x, domain=ZZ)


def numbers_of(poly):
    numbers = [int(v) for v in reversed(poly.all_coeffs())]
    return numbers + [0] * (PLACES - len(numbers))


def with_last_above_0(numbers):
    return [-v for v in numbers] if numbers[degree_of(numbers)] < 0 else numbers


def has_small_numbers(numbers):
    return all(-100 <= v <= 100 for v in numbers)


def is_small(numbers):
    return degree_of(numbers) >= 1 and has_small_numbers(numbers)


def is_plain(numbers):
    return is_small(numbers) and numbers[degree_of(numbers)] == 1


def has_group(numbers):
    return is_plain(numbers) and degree_of(numbers) <= 4


@functools.lru_cache(None)
def factors_of(numbers):
    """CONTENT, and the factors in their ORDER, each with how often it is there."""
    content, found = poly_of(numbers).factor_list()
    content = int(content)
    parts = []
    for part, often in found:
        part = numbers_of(part)
        if part[degree_of(part)] < 0:
            content *= (-1) ** often
        parts.append((with_last_above_0(part), often))
    parts.sort(key=lambda part: (degree_of(part[0]), list(reversed(part[0]))))
    return content, parts


@functools.lru_cache(None)
def type_by(numbers, prime):
    if numbers[degree_of(numbers)] % prime == 0:
        return 0
    _, parts = Poly(list(reversed(numbers)), x, modulus=prime).factor_list()
    if any(often > 1 for _, often in parts):
        return 0
    return as_digits(part.degree() for part, _ in parts)


def as_digits(degrees):
    return int(''.join(str(d) for d in sorted(degrees)))


def galois_of(parts):
    """The group of unlike parts, as permutations of all their roots."""
    roots = sum(degree_of(part) for part in parts)
    unsettled = [part for part in parts if degree_of(part) > 1]
    if not unsettled:
        return PermutationGroup([Permutation(roots - 1)])
    if len(unsettled) == 2:
        return galois_of_quadratics(*unsettled)
    group, _ = galois_group(poly_of(unsettled[0]))
    still = roots - degree_of(unsettled[0])
    moved = lambda change: Permutation([*range(still)] + [still + k for k in change.array_form])
    return PermutationGroup([moved(change) for change in group.generators])


def galois_of_quadratics(one, other):
    """The other one falls apart over the field of the first if both have the same field."""
    discriminant = one[1] ** 2 - 4 * one[0]
    _, parts = factor_list(poly_of(other).as_expr(), x, extension=sqrt(discriminant))
    if len(parts) > 1:
        return PermutationGroup([Permutation([1, 0, 3, 2])])
    return PermutationGroup([Permutation([1, 0, 2, 3]), Permutation([0, 1, 3, 2])])


@functools.lru_cache(None)
def group_of(numbers):
    """What 0 to 4 of group, and how many changes there are of each type."""
    parts = [part for part, _ in factors_of(numbers)[1]]
    roots = sum(degree_of(part) for part in parts)
    changes = list(galois_of(parts).generate())
    types = {}
    for change in changes:
        kind = as_digits(len(cycle) for cycle in change.full_cyclic_form)
        types[kind] = types.get(kind, 0) + 1
    order = len(changes)
    ruler = int(bin(order).count('1') == 1)
    even = int(all(change.is_even for change in changes))
    fields = count_subgroups(tuple(sorted(tuple(change.array_form) for change in changes)))
    return [order, fields, ruler, even, roots], types


def product_of(one, other):
    return tuple(other[k] for k in one)


def closed(changes):
    """The group that some changes make."""
    group = set(changes) | {tuple(range(len(changes[0])))}
    fresh = list(group)
    while fresh:
        found = []
        for one in fresh:
            for other in list(group):
                for product in (product_of(one, other), product_of(other, one)):
                    if product not in group:
                        group.add(product)
                        found.append(product)
        fresh = found
    return frozenset(group)


@functools.lru_cache(None)
def count_subgroups(changes):
    """All groups of changes of four roots are made by two of their changes."""
    return len({closed([one, other]) for one in changes for other in changes})


def real_roots(numbers):
    return sum(unpadded(part).count_roots() for part, _ in factors_of(numbers)[1])


def real_roots_between(numbers, a, b):
    roots = 0
    for part, _ in factors_of(numbers)[1]:
        poly = unpadded(part)
        roots += poly.count_roots(a, b) - (1 if poly.eval(a) == 0 else 0)
    return roots


def unpadded(part):
    return Poly(list(reversed(part[:degree_of(part) + 1])), x)


def power_sum(numbers, k):
    """The trace of a power of the companion matrix."""
    n = degree_of(numbers)
    if k == 0:
        return Rational(n)
    companion = [[Rational(0)] * n for _ in range(n)]
    for i in range(1, n):
        companion[i][i - 1] = Rational(1)
    for i in range(n):
        companion[i][n - 1] = Rational(-numbers[i], numbers[n])
    power = [[Rational(int(i == j)) for j in range(n)] for i in range(n)]
    for _ in range(k):
        power = [[sum(power[i][m] * companion[m][j] for m in range(n)) for j in range(n)] for i in range(n)]
    return sum(power[i][i] for i in range(n))


def part_of(fraction, what):
    return int(fraction.p if what == 0 else fraction.q)


class Oracle:
    """The class of the document, call by call."""

    def __init__(self):
        self.rows = [[0] * PLACES for _ in range(10)]
        self.refusal = 0
        self.latest = None

    def are_rows(self, *rows):
        return all(0 <= row <= 9 for row in rows)

    def refuse(self, reason):
        self.refusal = reason
        return reason

    def keep(self, numbers, to):
        if any(numbers[PLACES:]):
            return self.refuse(-3)
        numbers = (list(numbers) + [0] * PLACES)[:PLACES]
        if any(abs(v) > 10 ** 9 for v in numbers):
            return self.refuse(-3)
        self.rows[to] = numbers
        self.refusal = 0
        return 0

    def told(self, row, *numbers):
        if not self.are_rows(row) or not has_small_numbers(numbers):
            self.refusal = -1
            return -3
        self.rows[row] = list(numbers)
        self.refusal = 0
        return degree_of(numbers)

    def number(self, row, k):
        return self.rows[row][k] if self.are_rows(row) and 0 <= k <= 6 else UNSAID

    def degree(self, row):
        return degree_of(self.rows[row]) if self.are_rows(row) else -2

    def at(self, row, value):
        if not self.are_rows(row) or abs(value) > 20:
            return UNSAID
        return sum(c * value ** j for j, c in enumerate(self.rows[row]))

    def times(self, i, k, to):
        if not self.are_rows(i, k, to):
            return self.refuse(-1)
        product = [0] * (2 * PLACES - 1)
        for a in range(PLACES):
            for b in range(PLACES):
                product[a + b] += self.rows[i][a] * self.rows[k][b]
        return self.keep(product, to)

    def plus(self, i, k, to):
        if not self.are_rows(i, k, to):
            return self.refuse(-1)
        return self.keep([a + b for a, b in zip(self.rows[i], self.rows[k])], to)

    def derive(self, i, to):
        if not self.are_rows(i, to):
            return self.refuse(-1)
        return self.keep([j * self.rows[i][j] for j in range(1, PLACES)], to)

    def shift(self, i, a, to):
        if not self.are_rows(i, to) or abs(a) > 20:
            return self.refuse(-1)
        shifted = [0] * PLACES
        for j in range(PLACES):
            for k in range(j + 1):
                shifted[k] += self.rows[i][j] * math.comb(j, k) * a ** (j - k)
        return self.keep(shifted, to)

    def turn(self, i, to):
        if not self.are_rows(i, to):
            return self.refuse(-1)
        numbers = list(self.rows[i])
        if not any(numbers):
            return self.refuse(-2)
        while numbers[-1] == 0:
            numbers.pop()
        while numbers[0] == 0:
            numbers.pop(0)
        return self.keep(numbers[::-1], to)

    def common(self, i, k, to):
        if not self.are_rows(i, k, to):
            return self.refuse(-1)
        one, other = self.rows[i], self.rows[k]
        if not any(one) and not any(other) or not has_small_numbers(one) or not has_small_numbers(other):
            return self.refuse(-2)
        if 0 in (degree_of(one), degree_of(other)):
            return self.keep([1], to)
        shared = numbers_of(gcd(poly_of(one), poly_of(other)))
        divisor = functools.reduce(math.gcd, shared)
        return self.keep(with_last_above_0([v // divisor for v in shared]), to)

    def sums(self, i, k, to):
        if not self.are_rows(i, k, to):
            return self.refuse(-1)
        one, other = self.rows[i], self.rows[k]
        if not is_plain(one) or not is_plain(other):
            return self.refuse(-2)
        if degree_of(one) * degree_of(other) > 6:
            return self.refuse(-3)
        by_y = poly_of(one).as_expr().subs(x, y)
        by_rest = poly_of(other).as_expr().subs(x, x - y).expand()
        return self.keep(with_last_above_0(numbers_of(Poly(resultant(by_y, by_rest, y), x))), to)

    def factors(self, row):
        if not self.are_rows(row):
            return self.refuse(-1)
        if not is_small(self.rows[row]):
            return self.refuse(-2)
        self.latest = factors_of(tuple(self.rows[row]))
        self.refusal = 0
        return len(self.latest[1])

    def factor(self, k, what):
        if self.latest is None:
            return UNSAID
        content, parts = self.latest
        if k == -1:
            return content if what == 0 else UNSAID
        if not 0 <= k < len(parts) or not 0 <= what <= 8:
            return UNSAID
        part, often = parts[k]
        return part[what] if what < 7 else degree_of(part) if what == 7 else often

    def type(self, row, p):
        if not self.are_rows(row) or p not in PRIMES:
            return -1
        if not is_small(self.rows[row]):
            return -2
        return type_by(tuple(self.rows[row]), p)

    def tally(self, row, kind, n):
        if not self.are_rows(row) or not 2 <= n <= 997:
            return -1
        if not is_small(self.rows[row]):
            return -2
        return sum(1 for p in PRIMES if p <= n and type_by(tuple(self.rows[row]), p) == kind)

    def group(self, row, what):
        if not self.are_rows(row) or not 0 <= what <= 4:
            return -1
        if not has_group(self.rows[row]):
            return -2
        return group_of(tuple(self.rows[row]))[0][what]

    def changes(self, row, kind):
        if not self.are_rows(row):
            return -1
        if not has_group(self.rows[row]):
            return -2
        return group_of(tuple(self.rows[row]))[1].get(kind, 0)

    def discriminant(self, row):
        if not self.are_rows(row) or not is_small(self.rows[row]) or degree_of(self.rows[row]) > 4:
            return UNSAID
        if degree_of(self.rows[row]) == 1:
            return 1
        return int(poly_of(self.rows[row]).discriminant())

    def count(self, row, a, b):
        if not self.are_rows(row) or abs(a) > 1000 or abs(b) > 1000 or a >= b:
            return -1
        if not is_small(self.rows[row]):
            return -2
        return real_roots_between(tuple(self.rows[row]), a, b)

    def reals(self, row):
        if not self.are_rows(row):
            return -1
        if not is_small(self.rows[row]):
            return -2
        return real_roots(tuple(self.rows[row]))

    def power(self, row, k, what):
        if not self.are_rows(row) or not 0 <= k <= 7 or what not in (0, 1) or not is_small(self.rows[row]):
            return UNSAID
        return part_of(power_sum(self.rows[row], k), what)

    def pairs(self, row, a, b, what):
        if (not self.are_rows(row) or a < 1 or b < 1 or a + b > 4 or what not in (0, 1)
                or not is_small(self.rows[row])):
            return UNSAID
        numbers = self.rows[row]
        return part_of(power_sum(numbers, a) * power_sum(numbers, b) - power_sum(numbers, a + b), what)

    def status(self):
        return self.refusal


CALLS = (['told'] * 4 + ['number', 'degree', 'at'] + ['times'] * 2 + ['plus', 'derive', 'shift', 'turn']
         + ['common'] * 2 + ['sums'] * 2 + ['factors'] * 2 + ['factor'] * 3 + ['type'] * 2 + ['tally']
         + ['group'] * 2 + ['changes', 'discriminant'] + ['count'] * 2 + ['reals', 'power', 'pairs']
         + ['status'] * 2)
LIMITS = {'tiny': 3, 'mid': 12, 'big': 100, 'monic': 8}
# Groups that a random polynomial hardly ever has.
RARE = [[12, 8, 0, 0, 1], [21, -18, 0, 0, 1], [-1, -3, 0, 1], [1, -3, 0, 1], [1, 1, 1, 1, 1], [5, -5, 0, 0, 1],
        [2, 0, -4, 0, 1], [1, 0, 0, 0, 1], [1, 0, -10, 0, 1], [16, 0, -10, 0, 1], [-7, -7, 0, 1]]
TYPES_BY_PRIMES = [0, 1, 2, 11, 12, 3, 111, 22, 13, 112, 4, 1111, 6, 33, 222, 24, 15, 5, 123, 1112]
TYPES_OF_CHANGES = [1, 11, 2, 12, 111, 3, 1111, 112, 22, 13, 4, 0, -1]


class Caller:
    """Random calls that are mostly sensible."""

    def __init__(self, rng):
        self.rng = rng
        self.mode = rng.choice(['tiny', 'mid', 'big', 'monic', 'monic'])

    def row(self):
        if self.rng.random() < 0.02:
            return self.rng.choice([-1, 10, 11])
        return self.rng.randrange(10)

    def number(self):
        if self.rng.random() < 0.02:
            return self.rng.choice([101, -101, 100, -100])
        limit = LIMITS[self.mode]
        return self.rng.randint(-limit, limit) if self.rng.random() < 0.8 else 0

    def numbers(self):
        degree = self.rng.choice([-1, 0, 1, 1, 2, 2, 2, 3, 3, 3, 4, 4, 4, 5, 6, 6])
        numbers = [0] * PLACES
        for j in range(degree + 1):
            numbers[j] = self.number()
        if degree >= 0 and (self.mode == 'monic' or self.rng.random() < 0.5):
            numbers[degree] = 1
        if self.rng.random() < 0.15:
            numbers = self.product()
        if self.rng.random() < 0.08:
            numbers = self.rng.choice(RARE)
        return numbers + [0] * (PLACES - len(numbers))

    def product(self):
        """Of parts with small numbers, as many as there is place for."""
        whole = [1]
        while True:
            part = [self.rng.randint(-3, 3) for _ in range(self.rng.choice([2, 2, 3, 4]))]
            if len(whole) + len(part) - 1 > PLACES:
                return whole
            grown = [0] * (len(whole) + len(part) - 1)
            for a, one in enumerate(whole):
                for b, other in enumerate(part):
                    grown[a + b] += one * other
            if not has_small_numbers(grown):
                return whole
            whole = grown

    def arguments(self, name):
        rng = self.rng
        if name in ('status',):
            return []
        if name == 'factor':
            return [rng.randint(-1, 3), rng.choice([0, 0, 1, 2, 3, 4, 5, 6, 7, 8, 8, 9, -1])]
        row = self.row()
        if name == 'told':
            return [row] + self.numbers()
        if name in ('times', 'plus', 'common', 'sums'):
            return [row, self.row(), self.row()]
        if name in ('derive', 'turn'):
            return [row, self.row()]
        if name == 'shift':
            return [row, rng.choice([rng.randint(-3, 3), rng.randint(-21, 21)]), self.row()]
        return [row] + self.question(name)

    def question(self, name):
        """What is asked of a row."""
        rng = self.rng
        if name == 'number':
            return [rng.randint(-1, 7)]
        if name == 'at':
            return [rng.randint(-21, 21)]
        if name == 'type':
            return [rng.choice([2, 3, 5, 7, 11, 13, 4, 1, 997, rng.randint(-1, 1000)])]
        if name == 'tally':
            return [rng.choice(TYPES_BY_PRIMES), rng.choice([1, 2, 30, 50, 100, rng.randint(0, 60)])]
        if name == 'group':
            return [rng.randint(-1, 5) if rng.random() < 0.1 else rng.randint(0, 4)]
        if name == 'changes':
            return [rng.choice(TYPES_OF_CHANGES)]
        if name == 'count':
            a = rng.choice([rng.randint(-5, 5), rng.randint(-1001, 1001)])
            return [a, rng.choice([a + rng.randint(0, 6), rng.randint(-1001, 1001)])]
        if name == 'power':
            return [rng.randint(-1, 8), rng.randint(-1, 2) if rng.random() < 0.1 else rng.randint(0, 1)]
        if name == 'pairs':
            first = rng.randint(0, 4) if rng.random() < 0.2 else rng.randint(1, 3)
            return [first, rng.randint(1, 2), rng.randint(0, 1)]
        return []


def run_of(rng, calls):
    """Name, arguments and the answer due of each call."""
    oracle = Oracle()
    caller = Caller(rng)
    yield 'new', [], 0
    for k in range(calls):
        name = 'told' if k < 6 else rng.choice(CALLS)
        arguments = caller.arguments(name)
        yield name, arguments, int(getattr(oracle, name)(*arguments))


def main():
    seed, runs, calls = map(int, sys.argv[1:4])
    for k in range(runs):
        for name, arguments, due in run_of(random.Random(seed + k), calls):
            print(' '.join([name] + [str(v) for v in arguments]), '=', due)


if __name__ == '__main__':
    main()
