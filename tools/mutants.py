"""Breaks the class in some 3,000 small ways, one at a time, and lists those that no test sees.

python3 tools/mutants.py [TEST,TEST,.. [FILE]] > FILE     (from the checkout; some 15 minutes on 8 cores)

Without tests named: all of TESTS below. With a FILE that an earlier run wrote: only those it lists.
What stays on the list is to be looked at by hand: most of it changes no answer (a witness more, a
guard that nothing reaches).
"""
import multiprocessing
import os
import re
import shutil
import subprocess
import sys
import tempfile

SOURCE = 'src/main/java/RootChanges.java'
HELP = 'src/test/help'
TESTS = ['BoundariesOfTerms', 'BoundariesOfRows', 'BoundariesOfAnswers', 'PartsOfProducts',
         'PromiseTests', 'RootChangesRuns', 'RunFileTest', 'AnyArguments']
SECONDS = 40
OTHER = {'<': ['<=', '!='], '<=': ['<'], '>': ['>=', '!='], '>=': ['>'], '==': ['!='], '!=': ['=='],
         '&&': ['||'], '||': ['&&'], '+': ['-'], '-': ['+'], '*': ['+'], '/': ['*'], '%': ['*'],
         '+=': ['-='], '-=': ['+=']}
CODES = ('BAD_NUMBER', 'NOT_WANTED', 'TOO_MUCH', 'DONE')
NO_STATEMENT = (r'(return|private|final|long|int|boolean|case|public|static|Big|Kind|for|break|continue)\b|\}')


def without_comments(text):
    blank = lambda found: re.sub(r'[^\n]', ' ', found.group())
    return re.sub(r'/\*.*?\*/|//[^\n]*', blank, text, flags=re.S)


def end_of_call(code, start):
    depth = 1
    while depth:
        depth += {'(': 1, ')': -1}.get(code[start], 0)
        start += 1
    return start


def edits(code):
    """Kind, start, end and new text of every change."""
    for m in re.finditer(r' (<=|>=|==|!=|<|>|&&|\|\||\+=|-=|[+\-*/%]) ', code):
        for new in OTHER[m.group(1)]:
            yield 'sign', m.start(1), m.end(1), new
    for m in re.finditer(r'\n +(&&|\|\|) ', code):
        yield 'sign', m.start(1), m.end(1), OTHER[m.group(1)][0]
    for m in re.finditer(r'(?<![\w.])(\d{1,18})(L?)\b', code):
        for new in (int(m.group(1)) + 1, int(m.group(1)) - 1):
            yield 'number', m.start(), m.end(), '(%d%s)' % (new, m.group(2))
    for m in re.finditer(r'\b(%s)\b(?! =)' % '|'.join(CODES), code):
        for new in CODES:
            if new != m.group():
                yield 'code', m.start(), m.end(), new
    for m in re.finditer(r'!?\b(is\w+|has\w+|divides\w*|splitsBy)\(', code):
        end = end_of_call(code, m.end())
        if code[end:end + 2] != ' {':
            yield 'condition', m.start(), end, 'true'
            yield 'condition', m.start(), end, 'false'
    for m in re.finditer(r'[\w.\[\]]+ (?:<=|>=|==|!=|<|>) [\w.\[\]\-]+', code):
        yield 'condition', m.start(), m.end(), '(true)'
        yield 'condition', m.start(), m.end(), '(false)'
    for m in re.finditer(r'^ +([^\n]*;)\n', code, flags=re.M):
        if not re.match(NO_STATEMENT, m.group(1)):
            yield 'left out', m.start(1), m.end(1), ';'
    for m in re.finditer(r'(?<== )[^;={}?]+(?=;)', code):
        if re.search(r' [+*\-/] |\w\(', m.group()) and not re.search(r'\bnew |true|false', m.group()):
            yield 'int', m.start(), m.end(), '(int) (' + m.group() + ')'
    for m in re.finditer(r' \? ([^:?;]+) : ([^;,)]+)', code):
        yield 'turned', m.start(), m.end(), ' ? ' + m.group(2) + ' : ' + m.group(1)


def mutants():
    text = open(SOURCE).read()
    seen = {text}
    found = []
    for kind, start, end, new in edits(without_comments(text)):
        broken = text[:start] + new + text[end:]
        if broken not in seen:
            seen.add(broken)
            line = text[:start].count('\n') + 1
            name = '%s, line %d, column %d: %s -> %s' % (
                kind, line, start - text.rfind('\n', 0, start), text[start:end], new)
            found.append((' '.join(name.split()), broken))
    return found


def compile_tests(into):
    sources = [p for t in TESTS for p in ('src/test/java/%s.java' % t, '../shared/tests/%s.java' % t)
               if os.path.exists(p)]
    subprocess.check_call(['javac', '-encoding', 'UTF-8', '-sourcepath', HELP, '-d', into, SOURCE] + sources)


def fate(job):
    (name, broken), tests, compiled = job
    work = tempfile.mkdtemp()
    try:
        path = os.path.join(work, 'RootChanges.java')
        open(path, 'w').write(broken)
        if subprocess.run(['javac', '-nowarn', '-d', work, path], capture_output=True).returncode:
            return name, 'does not compile'
        for test in tests:
            command = ['java', '-XX:TieredStopAtLevel=1', '-cp', work + os.pathsep + compiled, test]
            try:
                if subprocess.run(command, capture_output=True, timeout=SECONDS).returncode:
                    return name, 'seen by ' + test
            except subprocess.TimeoutExpired:
                return name, 'seen by ' + test
        return name, 'not seen'
    finally:
        shutil.rmtree(work)


def main():
    tests = sys.argv[1].split(',') if len(sys.argv) > 1 else TESTS
    all_mutants = mutants()
    if len(sys.argv) > 2:
        listed = set(open(sys.argv[2]).read().split('\n'))
        all_mutants = [m for m in all_mutants if m[0] in listed]
    compiled = tempfile.mkdtemp()
    compile_tests(compiled)
    counts = {}
    with multiprocessing.Pool() as pool:
        jobs = ((m, tests, compiled) for m in all_mutants)
        for name, end in pool.imap(fate, jobs, chunksize=4):
            counts[end] = counts.get(end, 0) + 1
            if end == 'not seen':
                print(name, flush=True)
    shutil.rmtree(compiled)
    print(counts, file=sys.stderr)


if __name__ == '__main__':
    main()
