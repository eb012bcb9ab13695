"""Writes runs of calls with the answers due, worked out by sympy and by nothing of the program.

python3 tools/oracle.py SEED RUNS CALLS > src/test/data/runs.txt
"""
import functools
import math
import random
import sys

from sympy import Poly, Rational, ZZ, factor_list, gcd, primerange, resultant, sqrt, symbols
from sympy.combinatorics import Permutation, PermutationGroup
from sympy.polys.numberfields.galoisgroups import galois_group

x,y=symbols('x y')
UNSAID=-9223372036854775808
P=[p for p in primerange(2,998)]
def deg(c):
    for j in range(6,-1,-1):
        if c[j]: return j
    return -1
def poly(c): return Poly(list(reversed(c)),x,domain=ZZ)
def nums(p):
    l=[int(v) for v in reversed(p.all_coeffs())]
    return l+[0]*(7-len(l))
def small(c): return deg(c)>=1 and all(-100<=v<=100 for v in c)
def plain(c): return small(c) and c[deg(c)]==1
@functools.lru_cache(None)
def facs(c):
    p=poly(c); cont,fl=p.factor_list()
    cont=int(cont); out=[]
    for f,m in fl:
        n=nums(f)
        if n[deg(n)]<0:
            n=[-v for v in n]; cont*= (-1)**m
        out.append((n,m))
    out.sort(key=lambda t:(deg(t[0]),list(reversed(t[0]))))
    return cont,out
@functools.lru_cache(None)
def typ(c,p):
    n=deg(c)
    if c[n]%p==0: return 0
    q=Poly(list(reversed(c)),x,modulus=p)
    _,fl=q.factor_list()
    if any(m>1 for _,m in fl): return 0
    return int(''.join(str(d) for d in sorted(f.degree() for f,_ in fl)))
@functools.lru_cache(None)
def group(c):
    cont,fl=facs(c)
    ds=[deg(f) for f,_ in fl]; n=sum(ds)
    top=[f for f,_ in fl if deg(f)>1]
    if len(top)==0: G=PermutationGroup([Permutation(n-1)]) if n>0 else None
    elif len(top)==1:
        g,_=galois_group(poly(top[0]))
        off=n-deg(top[0])
        G=PermutationGroup([Permutation([*range(off)]+[off+i for i in gg.array_form]) for gg in g.generators])
    else:
        a,b=top
        # is Q(sqrt d1)=Q(sqrt d2): factor b over Q(sqrt d1)
        d1=a[1]**2-4*a[0]
        pf=Poly(list(reversed(b)),x).as_expr()
        fl2=factor_list(pf,x,extension=sqrt(d1))
        if len(fl2[1])>1: G=PermutationGroup([Permutation([1,0,3,2])])
        else: G=PermutationGroup([Permutation([1,0,2,3]),Permutation([0,1,3,2])])
    elems=list(G.generate())
    types={}
    even=True
    for e in elems:
        cyc=sorted([len(z) for z in e.full_cyclic_form]); 
        assert sum(cyc)==n,(cyc,n)
        t=int(''.join(map(str,cyc))); types[t]=types.get(t,0)+1
        if not e.is_even: even=False
    # subgroups by brute force closure
    els=[tuple(e.array_form) for e in elems]
    return n,len(els),nsub(tuple(sorted(els))),even,types
@functools.lru_cache(None)
def nsub(els):
    def mul(a,b): return tuple(b[i] for i in a)
    def close(gens):
        s=set(gens)|{tuple(range(len(els[0])))}
        fr=list(s)
        while fr:
            nf=[]
            for a in fr:
                for b in list(s):
                    for c in (mul(a,b),mul(b,a)):
                        if c not in s: s.add(c); nf.append(c)
            fr=nf
        return frozenset(s)
    subs=set()
    for a in els:
        for b in els:
            subs.add(close([a,b]))
    # all subgroups of S4 are 2-generated
    return len(subs)
def realroots(c):
    cont,fl=facs(c); return sum(Poly(list(reversed(f[:deg(f)+1])),x).count_roots() for f,_ in fl)
def countroots(c,a,b):
    cont,fl=facs(c); t=0
    for f,_ in fl:
        p=Poly(list(reversed(f[:deg(f)+1])),x)
        t+=p.count_roots(a,b)-(1 if p.eval(a)==0 else 0)
    return t
def powsum(c,k):
    # trace of companion matrix power
    n=deg(c)
    if k==0: return Rational(n)
    M=[[Rational(0)]*n for _ in range(n)]
    for i in range(1,n): M[i][i-1]=Rational(1)
    for i in range(n): M[i][n-1]=Rational(-c[i],c[n])
    A=[[Rational(int(i==j)) for j in range(n)] for i in range(n)]
    for _ in range(k):
        A=[[sum(A[i][l]*M[l][j] for l in range(n)) for j in range(n)] for i in range(n)]
    return sum(A[i][i] for i in range(n))
class O:
    def __init__(s):
        s.r=[[0]*7 for _ in range(10)]; s.st=0; s.latest=None
    def ok(s,*rs): return all(0<=r<=9 for r in rs)
    def ref(s,v): s.st=v; return v
    def keep(s,n,to):
        if len(n)>7 and any(n[7:]): return s.ref(-3)
        n=(list(n)+[0]*7)[:7]
        if any(abs(v)>10**9 for v in n): return s.ref(-3)
        s.r[to]=n; s.st=0; return 0
    def told(s,row,*c):
        if not s.ok(row) or any(abs(v)>100 for v in c): s.st=-1; return -3
        s.r[row]=list(c); s.st=0; return deg(c)
    def number(s,row,k): return s.r[row][k] if s.ok(row) and 0<=k<=6 else UNSAID
    def degree(s,row): return deg(s.r[row]) if s.ok(row) else -2
    def at(s,row,v): return sum(c*v**j for j,c in enumerate(s.r[row])) if s.ok(row) and abs(v)<=20 else UNSAID
    def times(s,i,k,to):
        if not s.ok(i,k,to): return s.ref(-1)
        o=[0]*13
        for a in range(7):
            for b in range(7): o[a+b]+=s.r[i][a]*s.r[k][b]
        return s.keep(o,to)
    def plus(s,i,k,to):
        if not s.ok(i,k,to): return s.ref(-1)
        return s.keep([a+b for a,b in zip(s.r[i],s.r[k])],to)
    def derive(s,i,to):
        if not s.ok(i,to): return s.ref(-1)
        return s.keep([j*s.r[i][j] for j in range(1,7)],to)
    def shift(s,i,a,to):
        if not s.ok(i,to) or abs(a)>20: return s.ref(-1)
        o=[0]*7
        for j in range(7):
            for k in range(j+1): o[k]+=s.r[i][j]*math.comb(j,k)*a**(j-k)
        return s.keep(o,to)
    def turn(s,i,to):
        if not s.ok(i,to): return s.ref(-1)
        c=s.r[i]
        if deg(c)<0: return s.ref(-2)
        l=list(c)
        while l[-1]==0: l.pop()
        while l[0]==0: l.pop(0)
        return s.keep(l[::-1],to)
    def common(s,i,k,to):
        if not s.ok(i,k,to): return s.ref(-1)
        a,b=s.r[i],s.r[k]
        if deg(a)<0 and deg(b)<0: return s.ref(-2)
        for c in (a,b):
            if deg(c)>=0 and any(abs(v)>100 for v in c): return s.ref(-2)
        if deg(a)==0 or deg(b)==0: return s.keep([1],to)
        g=gcd(poly(a),poly(b))
        n=nums(g)
        cc=functools.reduce(math.gcd,n); n=[v//cc for v in n]
        if n[deg(n)]<0: n=[-v for v in n]
        return s.keep(n,to)
    def sums(s,i,k,to):
        if not s.ok(i,k,to): return s.ref(-1)
        a,b=s.r[i],s.r[k]
        if not plain(a) or not plain(b): return s.ref(-2)
        if deg(a)*deg(b)>6: return s.ref(-3)
        f=poly(a).as_expr().subs(x,y); g=poly(b).as_expr().subs(x,x-y)
        R=Poly(resultant(f,g.expand(),y),x)
        n=nums(R)
        if n[deg(n)]<0: n=[-v for v in n]
        return s.keep(n,to)
    def factors(s,row):
        if not s.ok(row): return s.ref(-1)
        if not small(s.r[row]): return s.ref(-2)
        s.latest=facs(tuple(s.r[row])); s.st=0
        return len(s.latest[1])
    def factor(s,k,w):
        if s.latest is None: return UNSAID
        if k==-1: return s.latest[0] if w==0 else UNSAID
        if not(0<=k<len(s.latest[1])) or not 0<=w<=8: return UNSAID
        f,m=s.latest[1][k]
        return f[w] if w<7 else deg(f) if w==7 else m
    def type(s,row,p):
        if not s.ok(row) or p not in P: return -1
        if not small(s.r[row]): return -2
        return typ(tuple(s.r[row]),p)
    def tally(s,row,t,n):
        if not s.ok(row) or not 2<=n<=997: return -1
        if not small(s.r[row]): return -2
        return sum(1 for p in P if p<=n and typ(tuple(s.r[row]),p)==t)
    def group(s,row,w):
        if not s.ok(row) or not 0<=w<=4: return -1
        if not plain(s.r[row]) or deg(s.r[row])>4: return -2
        n,o,f,e,t=group(tuple(s.r[row]))
        return [o,f,int(bin(o).count('1')==1),int(e),n][w]
    def changes(s,row,t):
        if not s.ok(row): return -1
        if not plain(s.r[row]) or deg(s.r[row])>4: return -2
        return group(tuple(s.r[row]))[4].get(t,0)
    def discriminant(s,row):
        if not s.ok(row) or not small(s.r[row]) or deg(s.r[row])>4: return UNSAID
        if deg(s.r[row])==1: return 1
        return int(poly(s.r[row]).discriminant())
    def count(s,row,a,b):
        if not s.ok(row) or abs(a)>1000 or abs(b)>1000 or a>=b: return -1
        if not small(s.r[row]): return -2
        return countroots(tuple(s.r[row]),a,b)
    def reals(s,row):
        if not s.ok(row): return -1
        if not small(s.r[row]): return -2
        return realroots(tuple(s.r[row]))
    def power(s,row,k,w):
        if not s.ok(row) or not 0<=k<=7 or w not in (0,1) or not small(s.r[row]): return UNSAID
        v=powsum(s.r[row],k); return int(v.p if w==0 else v.q)
    def pairs(s,row,a,b,w):
        if not s.ok(row) or a<1 or b<1 or a+b>4 or w not in (0,1) or not small(s.r[row]): return UNSAID
        c=s.r[row]
        v=powsum(c,a)*powsum(c,b)-powsum(c,a+b); return int(v.p if w==0 else v.q)
    def status(s): return s.st

def gen(rng,ncalls):
    """random but sensible runs"""
    o=O(); out=[("new",[],0)]
    mode=rng.choice(['tiny','mid','big','monic','monic'])
    def row():
        return rng.choice([-1,10,11]) if rng.random()<0.02 else rng.randrange(10)
    def coef():
        m={'tiny':3,'mid':12,'big':100,'monic':8}[mode]
        if rng.random()<0.02: return rng.choice([101,-101,100,-100])
        return rng.randint(-m,m) if rng.random()<0.8 else 0
    def newtold():
        d=rng.choice([-1,0,1,1,2,2,2,3,3,3,4,4,4,5,6,6])
        c=[0]*7
        for j in range(d+1): c[j]=coef()
        if d>=0 and (mode=='monic' or rng.random()<0.5): c[d]=1
        if rng.random()<0.15:
            # product of small ones
            p=[1]
            while True:
                q=[rng.randint(-3,3) for _ in range(rng.choice([2,2,3,4]))]
                if len(p)+len(q)-1>7: break
                n=[0]*(len(p)+len(q)-1)
                for a,u in enumerate(p):
                    for b,v in enumerate(q): n[a+b]+=u*v
                if any(abs(v)>100 for v in n): break
                p=n
            c=p+[0]*(7-len(p))
        if rng.random()<0.08:
            # groups that a random polynomial hardly ever has
            c=rng.choice([[12,8,0,0,1],[21,-18,0,0,1],[-1,-3,0,1],[1,-3,0,1],[1,1,1,1,1],[5,-5,0,0,1],[2,0,-4,0,1],[1,0,0,0,1],[1,0,-10,0,1],[16,0,-10,0,1],[-7,-7,0,1]])
            c=c+[0]*(7-len(c))
        return c
    ops=['told']*4+['number','degree','at','times','times','plus','derive','shift','turn','common','common','sums','sums','factors','factors','factor','factor','factor','type','type','tally','group','group','changes','discriminant','count','count','reals','power','pairs','status','status']
    for i in range(ncalls):
        op='told' if i<6 else rng.choice(ops)
        if op=='told': a=[row()]+newtold()
        elif op=='number': a=[row(),rng.randint(-1,7)]
        elif op in('degree','factors','discriminant','reals'): a=[row()]
        elif op=='at': a=[row(),rng.randint(-21,21)]
        elif op in('times','plus','common','sums'): a=[row(),row(),row()]
        elif op in('derive','turn'): a=[row(),row()]
        elif op=='shift': a=[row(),rng.choice([rng.randint(-3,3),rng.randint(-21,21)]),row()]
        elif op=='factor': a=[rng.randint(-1,3),rng.choice([0,0,1,2,3,4,5,6,7,8,8,9,-1])]
        elif op=='type': a=[row(),rng.choice([2,3,5,7,11,13,4,1,997,rng.randint(-1,1000)])]
        elif op=='tally': a=[row(),rng.choice([0,1,2,11,12,3,111,22,13,112,4,1111,6,33,222,24,15,5,123,1112]),rng.choice([1,2,30,50,100,rng.randint(0,60)])]
        elif op=='group': a=[row(),rng.randint(-1,5) if rng.random()<0.1 else rng.randint(0,4)]
        elif op=='changes': a=[row(),rng.choice([1,11,2,12,111,3,1111,112,22,13,4,0,-1])]
        elif op=='count':
            a1=rng.choice([rng.randint(-5,5),rng.randint(-1001,1001)]); a=[row(),a1,rng.choice([a1+rng.randint(0,6),rng.randint(-1001,1001)])]
        elif op=='power': a=[row(),rng.randint(-1,8),rng.randint(-1,2)if rng.random()<0.1 else rng.randint(0,1)]
        elif op=='pairs': a=[row(),rng.randint(0,4)if rng.random()<0.2 else rng.randint(1,3),rng.randint(1,2),rng.randint(0,1)]
        elif op=='status': a=[]
        got=getattr(o,op)(*a)
        out.append((op,a,int(got)))
    return out
if __name__=='__main__':
    seed,runs,calls=map(int,sys.argv[1:4])
    for k in range(runs):
        for op,a,want in gen(random.Random(seed+k),calls):
            print(' '.join([op]+[str(v) for v in a]),'=',want)
